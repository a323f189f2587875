section
-- ===== PART A: goes FIRST, ahead of the names: the tables' words, and 'selects' of the private methods out of them =====
/-- a private method of a class that the tables say can be made, by its rows of tables_1 -/
def lw_okq (q : MethodName × Nat) : Prop := (q.1.cls ≠ "java/lang/invoke/MethodHandle" ∧ q.1.cls ≠ "java/lang/invoke/VarHandle") ∧ Cond.instantiable q.1.cls q.2 ∈ tables_1 ∧ Cond.privateMethod q.1 ∈ tables_1 ∧ Cond.instanceMethod q.1 ∈ tables_1
theorem lw_p0 : lw_okq (⟨"OxbowReaches$Pad", "scanNumber", "(IC)I"⟩, 7) := ⟨⟨by decide +kernel, by decide +kernel⟩, List.mem_of_getElem? (i := 162) (by decide +kernel), List.mem_of_getElem? (i := 327) (by decide +kernel), List.mem_of_getElem? (i := 328) (by decide +kernel)⟩
theorem lw_p1 : lw_okq (⟨"OxbowReaches$Pad", "digitAt", "(I)I"⟩, 7) := ⟨⟨by decide +kernel, by decide +kernel⟩, List.mem_of_getElem? (i := 162) (by decide +kernel), List.mem_of_getElem? (i := 331) (by decide +kernel), List.mem_of_getElem? (i := 332) (by decide +kernel)⟩
theorem lw_p2 : lw_okq (⟨"OxbowReaches$Pad", "signAt", "(I)I"⟩, 7) := ⟨⟨by decide +kernel, by decide +kernel⟩, List.mem_of_getElem? (i := 162) (by decide +kernel), List.mem_of_getElem? (i := 335) (by decide +kernel), List.mem_of_getElem? (i := 336) (by decide +kernel)⟩
theorem lw_p3 : lw_okq (⟨"OxbowReaches$Pad", "scanSteps", "()Z"⟩, 7) := ⟨⟨by decide +kernel, by decide +kernel⟩, List.mem_of_getElem? (i := 162) (by decide +kernel), List.mem_of_getElem? (i := 339) (by decide +kernel), List.mem_of_getElem? (i := 340) (by decide +kernel)⟩
theorem lw_p4 : lw_okq (⟨"OxbowReaches$Pad", "wayAt", "(I)I"⟩, 7) := ⟨⟨by decide +kernel, by decide +kernel⟩, List.mem_of_getElem? (i := 162) (by decide +kernel), List.mem_of_getElem? (i := 343) (by decide +kernel), List.mem_of_getElem? (i := 344) (by decide +kernel)⟩
theorem lw_p5 : lw_okq (⟨"OxbowReaches$Pad", "addSteps", "(II)V"⟩, 7) := ⟨⟨by decide +kernel, by decide +kernel⟩, List.mem_of_getElem? (i := 162) (by decide +kernel), List.mem_of_getElem? (i := 347) (by decide +kernel), List.mem_of_getElem? (i := 348) (by decide +kernel)⟩
theorem lw_p6 : lw_okq (⟨"OxbowReaches$River", "addFlood", "(I)V"⟩, 12) := ⟨⟨by decide +kernel, by decide +kernel⟩, List.mem_of_getElem? (i := 23) (by decide +kernel), List.mem_of_getElem? (i := 417) (by decide +kernel), List.mem_of_getElem? (i := 418) (by decide +kernel)⟩
theorem lw_p7 : lw_okq (⟨"OxbowReaches$River", "removeFlood", "(I)V"⟩, 12) := ⟨⟨by decide +kernel, by decide +kernel⟩, List.mem_of_getElem? (i := 23) (by decide +kernel), List.mem_of_getElem? (i := 421) (by decide +kernel), List.mem_of_getElem? (i := 422) (by decide +kernel)⟩
theorem lw_p8 : lw_okq (⟨"OxbowReaches$Course", "leaveBetween", "(II)V"⟩, 3) := ⟨⟨by decide +kernel, by decide +kernel⟩, List.mem_of_getElem? (i := 31) (by decide +kernel), List.mem_of_getElem? (i := 470) (by decide +kernel), List.mem_of_getElem? (i := 471) (by decide +kernel)⟩
theorem lw_p9 : lw_okq (⟨"OxbowReaches$Course", "numberAgain", "(I)V"⟩, 3) := ⟨⟨by decide +kernel, by decide +kernel⟩, List.mem_of_getElem? (i := 31) (by decide +kernel), List.mem_of_getElem? (i := 474) (by decide +kernel), List.mem_of_getElem? (i := 475) (by decide +kernel)⟩
theorem lw_p10 : lw_okq (⟨"OxbowReaches$Passing", "wearBanks", "(LOxbowReaches$River;Z)V"⟩, 5) := ⟨⟨by decide +kernel, by decide +kernel⟩, List.mem_of_getElem? (i := 190) (by decide +kernel), List.mem_of_getElem? (i := 487) (by decide +kernel), List.mem_of_getElem? (i := 488) (by decide +kernel)⟩
theorem lw_p11 : lw_okq (⟨"OxbowReaches$Passing", "growBends", "(LOxbowReaches$River;)V"⟩, 5) := ⟨⟨by decide +kernel, by decide +kernel⟩, List.mem_of_getElem? (i := 190) (by decide +kernel), List.mem_of_getElem? (i := 536) (by decide +kernel), List.mem_of_getElem? (i := 537) (by decide +kernel)⟩
theorem lw_p12 : lw_okq (⟨"OxbowReaches$Passing", "noteTaken", "(LOxbowReaches$River;)V"⟩, 5) := ⟨⟨by decide +kernel, by decide +kernel⟩, List.mem_of_getElem? (i := 190) (by decide +kernel), List.mem_of_getElem? (i := 555) (by decide +kernel), List.mem_of_getElem? (i := 556) (by decide +kernel)⟩
theorem lw_p13 : lw_okq (⟨"OxbowReaches$River", "pairOf", "(II)I"⟩, 12) := ⟨⟨by decide +kernel, by decide +kernel⟩, List.mem_of_getElem? (i := 23) (by decide +kernel), List.mem_of_getElem? (i := 574) (by decide +kernel), List.mem_of_getElem? (i := 575) (by decide +kernel)⟩
theorem lw_p14 : lw_okq (⟨"OxbowReaches$Passing", "cutNecks", "(LOxbowReaches$River;Z)V"⟩, 5) := ⟨⟨by decide +kernel, by decide +kernel⟩, List.mem_of_getElem? (i := 190) (by decide +kernel), List.mem_of_getElem? (i := 579) (by decide +kernel), List.mem_of_getElem? (i := 580) (by decide +kernel)⟩
theorem lw_p15 : lw_okq (⟨"OxbowReaches", "countBends", "(Z)I"⟩, 9) := ⟨⟨by decide +kernel, by decide +kernel⟩, List.mem_of_getElem? (i := 15) (by decide +kernel), List.mem_of_getElem? (i := 653) (by decide +kernel), List.mem_of_getElem? (i := 654) (by decide +kernel)⟩
def lw_privs_1 : List (MethodName × Nat) := [(⟨"OxbowReaches$Pad", "scanNumber", "(IC)I"⟩, 7), (⟨"OxbowReaches$Pad", "digitAt", "(I)I"⟩, 7), (⟨"OxbowReaches$Pad", "signAt", "(I)I"⟩, 7), (⟨"OxbowReaches$Pad", "scanSteps", "()Z"⟩, 7), (⟨"OxbowReaches$Pad", "wayAt", "(I)I"⟩, 7), (⟨"OxbowReaches$Pad", "addSteps", "(II)V"⟩, 7), (⟨"OxbowReaches$River", "addFlood", "(I)V"⟩, 12), (⟨"OxbowReaches$River", "removeFlood", "(I)V"⟩, 12), (⟨"OxbowReaches$Course", "leaveBetween", "(II)V"⟩, 3), (⟨"OxbowReaches$Course", "numberAgain", "(I)V"⟩, 3), (⟨"OxbowReaches$Passing", "wearBanks", "(LOxbowReaches$River;Z)V"⟩, 5), (⟨"OxbowReaches$Passing", "growBends", "(LOxbowReaches$River;)V"⟩, 5), (⟨"OxbowReaches$Passing", "noteTaken", "(LOxbowReaches$River;)V"⟩, 5), (⟨"OxbowReaches$River", "pairOf", "(II)I"⟩, 12), (⟨"OxbowReaches$Passing", "cutNecks", "(LOxbowReaches$River;Z)V"⟩, 5), (⟨"OxbowReaches", "countBends", "(Z)I"⟩, 9)]
theorem lw_r1 : ∀ q ∈ lw_privs_1, lw_okq q := List.forall_mem_cons.mpr ⟨lw_p0, List.forall_mem_cons.mpr ⟨lw_p1, List.forall_mem_cons.mpr ⟨lw_p2, List.forall_mem_cons.mpr ⟨lw_p3, List.forall_mem_cons.mpr ⟨lw_p4, List.forall_mem_cons.mpr ⟨lw_p5, List.forall_mem_cons.mpr ⟨lw_p6, List.forall_mem_cons.mpr ⟨lw_p7, List.forall_mem_cons.mpr ⟨lw_p8, List.forall_mem_cons.mpr ⟨lw_p9, List.forall_mem_cons.mpr ⟨lw_p10, List.forall_mem_cons.mpr ⟨lw_p11, List.forall_mem_cons.mpr ⟨lw_p12, List.forall_mem_cons.mpr ⟨lw_p13, List.forall_mem_cons.mpr ⟨lw_p14, List.forall_mem_cons.mpr ⟨lw_p15, fun _ h => absurd h List.not_mem_nil⟩⟩⟩⟩⟩⟩⟩⟩⟩⟩⟩⟩⟩⟩⟩⟩
theorem lw_p16 : lw_okq (⟨"OxbowReaches", "countNecks", "()I"⟩, 9) := ⟨⟨by decide +kernel, by decide +kernel⟩, List.mem_of_getElem? (i := 15) (by decide +kernel), List.mem_of_getElem? (i := 658) (by decide +kernel), List.mem_of_getElem? (i := 659) (by decide +kernel)⟩
theorem lw_p17 : lw_okq (⟨"OxbowReachesModel", "begin", "()V"⟩, 24) := ⟨⟨by decide +kernel, by decide +kernel⟩, List.mem_of_getElem? (i := 744) (by decide +kernel), List.mem_of_getElem? (i := 750) (by decide +kernel), List.mem_of_getElem? (i := 751) (by decide +kernel)⟩
theorem lw_p18 : lw_okq (⟨"OxbowReachesModel", "know", "()V"⟩, 24) := ⟨⟨by decide +kernel, by decide +kernel⟩, List.mem_of_getElem? (i := 744) (by decide +kernel), List.mem_of_getElem? (i := 834) (by decide +kernel), List.mem_of_getElem? (i := 835) (by decide +kernel)⟩
theorem lw_p19 : lw_okq (⟨"OxbowReachesModel", "numberOf", "(I)I"⟩, 24) := ⟨⟨by decide +kernel, by decide +kernel⟩, List.mem_of_getElem? (i := 744) (by decide +kernel), List.mem_of_getElem? (i := 845) (by decide +kernel), List.mem_of_getElem? (i := 846) (by decide +kernel)⟩
theorem lw_p20 : lw_okq (⟨"OxbowReachesModel", "dikes", "()I"⟩, 24) := ⟨⟨by decide +kernel, by decide +kernel⟩, List.mem_of_getElem? (i := 744) (by decide +kernel), List.mem_of_getElem? (i := 849) (by decide +kernel), List.mem_of_getElem? (i := 850) (by decide +kernel)⟩
theorem lw_p21 : lw_okq (⟨"OxbowReachesModel", "isFloodYear", "(I)Z"⟩, 24) := ⟨⟨by decide +kernel, by decide +kernel⟩, List.mem_of_getElem? (i := 744) (by decide +kernel), List.mem_of_getElem? (i := 857) (by decide +kernel), List.mem_of_getElem? (i := 858) (by decide +kernel)⟩
theorem lw_p22 : lw_okq (⟨"OxbowReachesModel", "findNeck", "(II)Z"⟩, 24) := ⟨⟨by decide +kernel, by decide +kernel⟩, List.mem_of_getElem? (i := 744) (by decide +kernel), List.mem_of_getElem? (i := 865) (by decide +kernel), List.mem_of_getElem? (i := 866) (by decide +kernel)⟩
theorem lw_p23 : lw_okq (⟨"OxbowReachesModel", "cutNeck", "()V"⟩, 24) := ⟨⟨by decide +kernel, by decide +kernel⟩, List.mem_of_getElem? (i := 744) (by decide +kernel), List.mem_of_getElem? (i := 875) (by decide +kernel), List.mem_of_getElem? (i := 876) (by decide +kernel)⟩
theorem lw_p24 : lw_okq (⟨"OxbowReachesModel", "dropOxbow", "(I)V"⟩, 24) := ⟨⟨by decide +kernel, by decide +kernel⟩, List.mem_of_getElem? (i := 744) (by decide +kernel), List.mem_of_getElem? (i := 879) (by decide +kernel), List.mem_of_getElem? (i := 880) (by decide +kernel)⟩
theorem lw_p25 : lw_okq (⟨"OxbowReachesModel", "goOn", "()I"⟩, 24) := ⟨⟨by decide +kernel, by decide +kernel⟩, List.mem_of_getElem? (i := 744) (by decide +kernel), List.mem_of_getElem? (i := 887) (by decide +kernel), List.mem_of_getElem? (i := 888) (by decide +kernel)⟩
theorem lw_p26 : lw_okq (⟨"OxbowReachesModel", "wear", "()V"⟩, 24) := ⟨⟨by decide +kernel, by decide +kernel⟩, List.mem_of_getElem? (i := 744) (by decide +kernel), List.mem_of_getElem? (i := 891) (by decide +kernel), List.mem_of_getElem? (i := 892) (by decide +kernel)⟩
theorem lw_p27 : lw_okq (⟨"OxbowReachesModel", "findBends", "()V"⟩, 24) := ⟨⟨by decide +kernel, by decide +kernel⟩, List.mem_of_getElem? (i := 744) (by decide +kernel), List.mem_of_getElem? (i := 895) (by decide +kernel), List.mem_of_getElem? (i := 896) (by decide +kernel)⟩
theorem lw_p28 : lw_okq (⟨"OxbowReachesModel", "way", "(I)I"⟩, 24) := ⟨⟨by decide +kernel, by decide +kernel⟩, List.mem_of_getElem? (i := 744) (by decide +kernel), List.mem_of_getElem? (i := 899) (by decide +kernel), List.mem_of_getElem? (i := 900) (by decide +kernel)⟩
theorem lw_p29 : lw_okq (⟨"OxbowReachesModel", "isFirm", "(I)Z"⟩, 24) := ⟨⟨by decide +kernel, by decide +kernel⟩, List.mem_of_getElem? (i := 744) (by decide +kernel), List.mem_of_getElem? (i := 903) (by decide +kernel), List.mem_of_getElem? (i := 904) (by decide +kernel)⟩
theorem lw_p30 : lw_okq (⟨"OxbowReachesModel", "bank", "(II)I"⟩, 24) := ⟨⟨by decide +kernel, by decide +kernel⟩, List.mem_of_getElem? (i := 744) (by decide +kernel), List.mem_of_getElem? (i := 907) (by decide +kernel), List.mem_of_getElem? (i := 908) (by decide +kernel)⟩
theorem lw_p31 : lw_okq (⟨"OxbowReachesModel", "wayOf", "(I)I"⟩, 24) := ⟨⟨by decide +kernel, by decide +kernel⟩, List.mem_of_getElem? (i := 744) (by decide +kernel), List.mem_of_getElem? (i := 911) (by decide +kernel), List.mem_of_getElem? (i := 912) (by decide +kernel)⟩
def lw_privs_2 : List (MethodName × Nat) := [(⟨"OxbowReaches", "countNecks", "()I"⟩, 9), (⟨"OxbowReachesModel", "begin", "()V"⟩, 24), (⟨"OxbowReachesModel", "know", "()V"⟩, 24), (⟨"OxbowReachesModel", "numberOf", "(I)I"⟩, 24), (⟨"OxbowReachesModel", "dikes", "()I"⟩, 24), (⟨"OxbowReachesModel", "isFloodYear", "(I)Z"⟩, 24), (⟨"OxbowReachesModel", "findNeck", "(II)Z"⟩, 24), (⟨"OxbowReachesModel", "cutNeck", "()V"⟩, 24), (⟨"OxbowReachesModel", "dropOxbow", "(I)V"⟩, 24), (⟨"OxbowReachesModel", "goOn", "()I"⟩, 24), (⟨"OxbowReachesModel", "wear", "()V"⟩, 24), (⟨"OxbowReachesModel", "findBends", "()V"⟩, 24), (⟨"OxbowReachesModel", "way", "(I)I"⟩, 24), (⟨"OxbowReachesModel", "isFirm", "(I)Z"⟩, 24), (⟨"OxbowReachesModel", "bank", "(II)I"⟩, 24), (⟨"OxbowReachesModel", "wayOf", "(I)I"⟩, 24)]
theorem lw_r2 : ∀ q ∈ lw_privs_2, lw_okq q := List.forall_mem_cons.mpr ⟨lw_p16, List.forall_mem_cons.mpr ⟨lw_p17, List.forall_mem_cons.mpr ⟨lw_p18, List.forall_mem_cons.mpr ⟨lw_p19, List.forall_mem_cons.mpr ⟨lw_p20, List.forall_mem_cons.mpr ⟨lw_p21, List.forall_mem_cons.mpr ⟨lw_p22, List.forall_mem_cons.mpr ⟨lw_p23, List.forall_mem_cons.mpr ⟨lw_p24, List.forall_mem_cons.mpr ⟨lw_p25, List.forall_mem_cons.mpr ⟨lw_p26, List.forall_mem_cons.mpr ⟨lw_p27, List.forall_mem_cons.mpr ⟨lw_p28, List.forall_mem_cons.mpr ⟨lw_p29, List.forall_mem_cons.mpr ⟨lw_p30, List.forall_mem_cons.mpr ⟨lw_p31, fun _ h => absurd h List.not_mem_nil⟩⟩⟩⟩⟩⟩⟩⟩⟩⟩⟩⟩⟩⟩⟩⟩
theorem lw_p32 : lw_okq (⟨"OxbowReachesModel", "growAll", "()V"⟩, 24) := ⟨⟨by decide +kernel, by decide +kernel⟩, List.mem_of_getElem? (i := 744) (by decide +kernel), List.mem_of_getElem? (i := 918) (by decide +kernel), List.mem_of_getElem? (i := 919) (by decide +kernel)⟩
theorem lw_p33 : lw_okq (⟨"OxbowReachesModel", "canGrow", "(I)Z"⟩, 24) := ⟨⟨by decide +kernel, by decide +kernel⟩, List.mem_of_getElem? (i := 744) (by decide +kernel), List.mem_of_getElem? (i := 922) (by decide +kernel), List.mem_of_getElem? (i := 923) (by decide +kernel)⟩
theorem lw_p34 : lw_okq (⟨"OxbowReachesModel", "leastWear", "(I)I"⟩, 24) := ⟨⟨by decide +kernel, by decide +kernel⟩, List.mem_of_getElem? (i := 744) (by decide +kernel), List.mem_of_getElem? (i := 926) (by decide +kernel), List.mem_of_getElem? (i := 927) (by decide +kernel)⟩
theorem lw_p35 : lw_okq (⟨"OxbowReachesModel", "grow", "(I)I"⟩, 24) := ⟨⟨by decide +kernel, by decide +kernel⟩, List.mem_of_getElem? (i := 744) (by decide +kernel), List.mem_of_getElem? (i := 930) (by decide +kernel), List.mem_of_getElem? (i := 931) (by decide +kernel)⟩
theorem lw_p36 : lw_okq (⟨"OxbowReachesModel", "age", "()V"⟩, 24) := ⟨⟨by decide +kernel, by decide +kernel⟩, List.mem_of_getElem? (i := 744) (by decide +kernel), List.mem_of_getElem? (i := 934) (by decide +kernel), List.mem_of_getElem? (i := 935) (by decide +kernel)⟩
theorem lw_p37 : lw_okq (⟨"OxbowReachesModel", "firm", "()I"⟩, 24) := ⟨⟨by decide +kernel, by decide +kernel⟩, List.mem_of_getElem? (i := 744) (by decide +kernel), List.mem_of_getElem? (i := 962) (by decide +kernel), List.mem_of_getElem? (i := 963) (by decide +kernel)⟩
theorem lw_p38 : lw_okq (⟨"OxbowReachesModel", "allNecks", "()I"⟩, 24) := ⟨⟨by decide +kernel, by decide +kernel⟩, List.mem_of_getElem? (i := 744) (by decide +kernel), List.mem_of_getElem? (i := 966) (by decide +kernel), List.mem_of_getElem? (i := 967) (by decide +kernel)⟩
theorem lw_p39 : lw_okq (⟨"OxbowReachesModel", "winding", "()I"⟩, 24) := ⟨⟨by decide +kernel, by decide +kernel⟩, List.mem_of_getElem? (i := 744) (by decide +kernel), List.mem_of_getElem? (i := 970) (by decide +kernel), List.mem_of_getElem? (i := 971) (by decide +kernel)⟩
theorem lw_p40 : lw_okq (⟨"OxbowReachesModel", "allWear", "()I"⟩, 24) := ⟨⟨by decide +kernel, by decide +kernel⟩, List.mem_of_getElem? (i := 744) (by decide +kernel), List.mem_of_getElem? (i := 977) (by decide +kernel), List.mem_of_getElem? (i := 978) (by decide +kernel)⟩
theorem lw_p41 : lw_okq (⟨"OxbowReachesModel", "putAside", "()V"⟩, 24) := ⟨⟨by decide +kernel, by decide +kernel⟩, List.mem_of_getElem? (i := 744) (by decide +kernel), List.mem_of_getElem? (i := 989) (by decide +kernel), List.mem_of_getElem? (i := 990) (by decide +kernel)⟩
theorem lw_p42 : lw_okq (⟨"OxbowReachesModel", "putBack", "()V"⟩, 24) := ⟨⟨by decide +kernel, by decide +kernel⟩, List.mem_of_getElem? (i := 744) (by decide +kernel), List.mem_of_getElem? (i := 993) (by decide +kernel), List.mem_of_getElem? (i := 994) (by decide +kernel)⟩
theorem lw_p43 : lw_okq (⟨"OxbowReachesModel", "readPad", "()V"⟩, 24) := ⟨⟨by decide +kernel, by decide +kernel⟩, List.mem_of_getElem? (i := 744) (by decide +kernel), List.mem_of_getElem? (i := 1018) (by decide +kernel), List.mem_of_getElem? (i := 1019) (by decide +kernel)⟩
theorem lw_p44 : lw_okq (⟨"OxbowReachesModel", "number", "(I)I"⟩, 24) := ⟨⟨by decide +kernel, by decide +kernel⟩, List.mem_of_getElem? (i := 744) (by decide +kernel), List.mem_of_getElem? (i := 1022) (by decide +kernel), List.mem_of_getElem? (i := 1023) (by decide +kernel)⟩
theorem lw_p45 : lw_okq (⟨"OxbowReachesModel", "sign", "(II)I"⟩, 24) := ⟨⟨by decide +kernel, by decide +kernel⟩, List.mem_of_getElem? (i := 744) (by decide +kernel), List.mem_of_getElem? (i := 1026) (by decide +kernel), List.mem_of_getElem? (i := 1027) (by decide +kernel)⟩
theorem lw_p46 : lw_okq (⟨"OxbowReachesModel", "isNext", "(II)Z"⟩, 24) := ⟨⟨by decide +kernel, by decide +kernel⟩, List.mem_of_getElem? (i := 744) (by decide +kernel), List.mem_of_getElem? (i := 1030) (by decide +kernel), List.mem_of_getElem? (i := 1031) (by decide +kernel)⟩
theorem lw_p47 : lw_okq (⟨"OxbowReachesModel", "tell", "(I)V"⟩, 24) := ⟨⟨by decide +kernel, by decide +kernel⟩, List.mem_of_getElem? (i := 744) (by decide +kernel), List.mem_of_getElem? (i := 1034) (by decide +kernel), List.mem_of_getElem? (i := 1035) (by decide +kernel)⟩
def lw_privs_3 : List (MethodName × Nat) := [(⟨"OxbowReachesModel", "growAll", "()V"⟩, 24), (⟨"OxbowReachesModel", "canGrow", "(I)Z"⟩, 24), (⟨"OxbowReachesModel", "leastWear", "(I)I"⟩, 24), (⟨"OxbowReachesModel", "grow", "(I)I"⟩, 24), (⟨"OxbowReachesModel", "age", "()V"⟩, 24), (⟨"OxbowReachesModel", "firm", "()I"⟩, 24), (⟨"OxbowReachesModel", "allNecks", "()I"⟩, 24), (⟨"OxbowReachesModel", "winding", "()I"⟩, 24), (⟨"OxbowReachesModel", "allWear", "()I"⟩, 24), (⟨"OxbowReachesModel", "putAside", "()V"⟩, 24), (⟨"OxbowReachesModel", "putBack", "()V"⟩, 24), (⟨"OxbowReachesModel", "readPad", "()V"⟩, 24), (⟨"OxbowReachesModel", "number", "(I)I"⟩, 24), (⟨"OxbowReachesModel", "sign", "(II)I"⟩, 24), (⟨"OxbowReachesModel", "isNext", "(II)Z"⟩, 24), (⟨"OxbowReachesModel", "tell", "(I)V"⟩, 24)]
theorem lw_r3 : ∀ q ∈ lw_privs_3, lw_okq q := List.forall_mem_cons.mpr ⟨lw_p32, List.forall_mem_cons.mpr ⟨lw_p33, List.forall_mem_cons.mpr ⟨lw_p34, List.forall_mem_cons.mpr ⟨lw_p35, List.forall_mem_cons.mpr ⟨lw_p36, List.forall_mem_cons.mpr ⟨lw_p37, List.forall_mem_cons.mpr ⟨lw_p38, List.forall_mem_cons.mpr ⟨lw_p39, List.forall_mem_cons.mpr ⟨lw_p40, List.forall_mem_cons.mpr ⟨lw_p41, List.forall_mem_cons.mpr ⟨lw_p42, List.forall_mem_cons.mpr ⟨lw_p43, List.forall_mem_cons.mpr ⟨lw_p44, List.forall_mem_cons.mpr ⟨lw_p45, List.forall_mem_cons.mpr ⟨lw_p46, List.forall_mem_cons.mpr ⟨lw_p47, fun _ h => absurd h List.not_mem_nil⟩⟩⟩⟩⟩⟩⟩⟩⟩⟩⟩⟩⟩⟩⟩⟩
def lw_privs : List (MethodName × Nat) := lw_privs_1 ++ (lw_privs_2 ++ (lw_privs_3))
def lw_tbl : List Cond := k2_sels lw_privs ++ tables_1
theorem lw_privs_ok : ∀ q ∈ lw_privs, lw_okq q := by
  show ∀ q ∈ lw_privs_1 ++ (lw_privs_2 ++ (lw_privs_3)), lw_okq q
  exact List.forall_mem_append.mpr ⟨lw_r1, List.forall_mem_append.mpr ⟨lw_r2, lw_r3⟩⟩
def RX0 : String := "OxbowReaches$Bend"
def TX0 : u_T := fun k => match k with
  | 0 => ("OxbowReaches$Bend", "first", "I", false)
  | 1 => ("OxbowReaches$Bend", "last", "I", false)
  | _ => ("OxbowReaches$Bend", "way", "I", false)
def tyX0 : Nat → FieldType := fun k => match k with
  | 0 => .int
  | 1 => .int
  | _ => .int
abbrev wsX00 : List Cond := u_ws RX0 TX0 3
theorem nmX0 : ∀ a, a < 3 → ∀ b, b < 3 → a ≠ b → (TX0 a).2.1 ≠ (TX0 b).2.1 := by decide +kernel
theorem tyX0_ok : ∀ k, k < 3 → parseFieldDescriptor (TX0 k).2.2.1 = some (tyX0 k) := by decide +kernel
abbrev cX0_init : ByteArray := prog_2_method_1_code
def yX0_init : MethodName := ⟨RX0, "<init>", "()V"⟩
abbrev cX0_seekFrom : ByteArray := prog_2_method_2_code
def yX0_seekFrom : MethodName := ⟨RX0, "seekFrom", "(LOxbowReaches$Course;I)Z"⟩
abbrev cX0_seekNumbered : ByteArray := prog_2_method_3_code
def yX0_seekNumbered : MethodName := ⟨RX0, "seekNumbered", "(LOxbowReaches$Course;I)Z"⟩
abbrev cX0_endOfRow : ByteArray := prog_2_method_4_code
def yX0_endOfRow : MethodName := ⟨RX0, "endOfRow", "(LOxbowReaches$Course;II)I"⟩
def RX1 : String := "OxbowReaches$Course"
def TX1 : u_T := fun k => match k with
  | 0 => ("OxbowReaches$Course", "cells", "[I", true)
  | 1 => ("OxbowReaches$Course", "numbers", "[I", true)
  | _ => ("OxbowReaches$Course", "length", "I", false)
def tyX1 : Nat → FieldType := fun k => match k with
  | 0 => .array .int
  | 1 => .array .int
  | _ => .int
abbrev wsX10 : List Cond := u_ws RX1 TX1 3
theorem nmX1 : ∀ a, a < 3 → ∀ b, b < 3 → a ≠ b → (TX1 a).2.1 ≠ (TX1 b).2.1 := by decide +kernel
theorem tyX1_ok : ∀ k, k < 3 → parseFieldDescriptor (TX1 k).2.2.1 = some (tyX1 k) := by decide +kernel
abbrev cX1_init : ByteArray := prog_3_method_1_code
def yX1_init : MethodName := ⟨RX1, "<init>", "()V"⟩
abbrev cX1_clear : ByteArray := prog_3_method_2_code
def yX1_clear : MethodName := ⟨RX1, "clear", "()V"⟩
abbrev cX1_copyFrom : ByteArray := prog_3_method_3_code
def yX1_copyFrom : MethodName := ⟨RX1, "copyFrom", "(LOxbowReaches$Course;)V"⟩
abbrev cX1_length : ByteArray := prog_3_method_4_code
def yX1_length : MethodName := ⟨RX1, "length", "()I"⟩
abbrev cX1_append : ByteArray := prog_3_method_5_code
def yX1_append : MethodName := ⟨RX1, "append", "(I)Z"⟩
abbrev cX1_cellOf : ByteArray := prog_3_method_6_code
def yX1_cellOf : MethodName := ⟨RX1, "cellOf", "(I)I"⟩
abbrev cX1_numberOf : ByteArray := prog_3_method_7_code
def yX1_numberOf : MethodName := ⟨RX1, "numberOf", "(I)I"⟩
abbrev cX1_numberBeside : ByteArray := prog_3_method_8_code
def yX1_numberBeside : MethodName := ⟨RX1, "numberBeside", "(II)I"⟩
abbrev cX1_nextBeside : ByteArray := prog_3_method_9_code
def yX1_nextBeside : MethodName := ⟨RX1, "nextBeside", "(II)I"⟩
abbrev cX1_wayFrom : ByteArray := prog_3_method_10_code
def yX1_wayFrom : MethodName := ⟨RX1, "wayFrom", "(I)I"⟩
abbrev cX1_winding : ByteArray := prog_3_method_11_code
def yX1_winding : MethodName := ⟨RX1, "winding", "()I"⟩
abbrev cX1_bulge : ByteArray := prog_3_method_12_code
def yX1_bulge : MethodName := ⟨RX1, "bulge", "(III)V"⟩
abbrev cX1_shorten : ByteArray := prog_3_method_13_code
def yX1_shorten : MethodName := ⟨RX1, "shorten", "(II)V"⟩
abbrev cX1_leaveBetween : ByteArray := prog_3_method_14_code
def yX1_leaveBetween : MethodName := ⟨RX1, "leaveBetween", "(II)V"⟩
abbrev cX1_numberAgain : ByteArray := prog_3_method_15_code
def yX1_numberAgain : MethodName := ⟨RX1, "numberAgain", "(I)V"⟩
def RX2 : String := "OxbowReaches$History"
def TX2 : u_T := fun k => match k with
  | 0 => ("OxbowReaches$History", "states", "[LOxbowReaches$River;", true)
  | 1 => ("OxbowReaches$History", "start", "I", false)
  | _ => ("OxbowReaches$History", "length", "I", false)
def tyX2 : Nat → FieldType := fun k => match k with
  | 0 => .array (.object "OxbowReaches$River")
  | 1 => .int
  | _ => .int
abbrev wsX20 : List Cond := u_ws RX2 TX2 3
theorem nmX2 : ∀ a, a < 3 → ∀ b, b < 3 → a ≠ b → (TX2 a).2.1 ≠ (TX2 b).2.1 := by decide +kernel
theorem tyX2_ok : ∀ k, k < 3 → parseFieldDescriptor (TX2 k).2.2.1 = some (tyX2 k) := by decide +kernel
abbrev cX2_init : ByteArray := prog_4_method_1_code
def yX2_init : MethodName := ⟨RX2, "<init>", "()V"⟩
abbrev cX2_length : ByteArray := prog_4_method_2_code
def yX2_length : MethodName := ⟨RX2, "length", "()I"⟩
abbrev cX2_remember : ByteArray := prog_4_method_3_code
def yX2_remember : MethodName := ⟨RX2, "remember", "(LOxbowReaches$River;)V"⟩
abbrev cX2_takeBack : ByteArray := prog_4_method_4_code
def yX2_takeBack : MethodName := ⟨RX2, "takeBack", "(LOxbowReaches$River;)Z"⟩
def RX3 : String := "OxbowReaches$Neck"
def TX3 : u_T := fun k => match k with
  | 0 => ("OxbowReaches$Neck", "from", "I", false)
  | _ => ("OxbowReaches$Neck", "to", "I", false)
def tyX3 : Nat → FieldType := fun k => match k with
  | 0 => .int
  | _ => .int
abbrev wsX30 : List Cond := u_ws RX3 TX3 2
theorem nmX3 : ∀ a, a < 2 → ∀ b, b < 2 → a ≠ b → (TX3 a).2.1 ≠ (TX3 b).2.1 := by decide +kernel
theorem tyX3_ok : ∀ k, k < 2 → parseFieldDescriptor (TX3 k).2.2.1 = some (tyX3 k) := by decide +kernel
abbrev cX3_init : ByteArray := prog_5_method_1_code
def yX3_init : MethodName := ⟨RX3, "<init>", "()V"⟩
abbrev cX3_seekNumbered : ByteArray := prog_5_method_2_code
def yX3_seekNumbered : MethodName := ⟨RX3, "seekNumbered", "(LOxbowReaches$Course;I)Z"⟩
abbrev cX3_seekWidest : ByteArray := prog_5_method_3_code
def yX3_seekWidest : MethodName := ⟨RX3, "seekWidest", "(LOxbowReaches$River;I)Z"⟩
def RX4 : String := "OxbowReaches$Oxbows"
def TX4 : u_T := fun k => match k with
  | 0 => ("OxbowReaches$Oxbows", "owners", "[I", true)
  | 1 => ("OxbowReaches$Oxbows", "firstCells", "[I", true)
  | 2 => ("OxbowReaches$Oxbows", "sizes", "[I", true)
  | 3 => ("OxbowReaches$Oxbows", "years", "[I", true)
  | _ => ("OxbowReaches$Oxbows", "length", "I", false)
def tyX4 : Nat → FieldType := fun k => match k with
  | 0 => .array .int
  | 1 => .array .int
  | 2 => .array .int
  | 3 => .array .int
  | _ => .int
abbrev wsX40 : List Cond := u_ws RX4 TX4 5
theorem nmX4 : ∀ a, a < 5 → ∀ b, b < 5 → a ≠ b → (TX4 a).2.1 ≠ (TX4 b).2.1 := by decide +kernel
theorem tyX4_ok : ∀ k, k < 5 → parseFieldDescriptor (TX4 k).2.2.1 = some (tyX4 k) := by decide +kernel
abbrev cX4_init : ByteArray := prog_6_method_1_code
def yX4_init : MethodName := ⟨RX4, "<init>", "()V"⟩
abbrev cX4_clear : ByteArray := prog_6_method_2_code
def yX4_clear : MethodName := ⟨RX4, "clear", "()V"⟩
abbrev cX4_copyFrom : ByteArray := prog_6_method_3_code
def yX4_copyFrom : MethodName := ⟨RX4, "copyFrom", "(LOxbowReaches$Oxbows;)V"⟩
abbrev cX4_length : ByteArray := prog_6_method_4_code
def yX4_length : MethodName := ⟨RX4, "length", "()I"⟩
abbrev cX4_has : ByteArray := prog_6_method_5_code
def yX4_has : MethodName := ⟨RX4, "has", "(I)Z"⟩
abbrev cX4_ownerOf : ByteArray := prog_6_method_6_code
def yX4_ownerOf : MethodName := ⟨RX4, "ownerOf", "(I)I"⟩
abbrev cX4_sizeOf : ByteArray := prog_6_method_7_code
def yX4_sizeOf : MethodName := ⟨RX4, "sizeOf", "(I)I"⟩
abbrev cX4_yearsOf : ByteArray := prog_6_method_8_code
def yX4_yearsOf : MethodName := ⟨RX4, "yearsOf", "(I)I"⟩
abbrev cX4_firstCellOf : ByteArray := prog_6_method_9_code
def yX4_firstCellOf : MethodName := ⟨RX4, "firstCellOf", "(I)I"⟩
abbrev cX4_take : ByteArray := prog_6_method_10_code
def yX4_take : MethodName := ⟨RX4, "take", "(LOxbowReaches$Course;II)V"⟩
abbrev cX4_drop : ByteArray := prog_6_method_11_code
def yX4_drop : MethodName := ⟨RX4, "drop", "(I)V"⟩
abbrev cX4_passYear : ByteArray := prog_6_method_12_code
def yX4_passYear : MethodName := ⟨RX4, "passYear", "(I)V"⟩
def RX5 : String := "OxbowReaches$Pad"
def TX5 : u_T := fun k => match k with
  | 0 => ("OxbowReaches$Pad", "signs", "[I", true)
  | 1 => ("OxbowReaches$Pad", "ways", "[I", true)
  | 2 => ("OxbowReaches$Pad", "length", "I", false)
  | 3 => ("OxbowReaches$Pad", "at", "I", false)
  | 4 => ("OxbowReaches$Pad", "startX", "I", false)
  | 5 => ("OxbowReaches$Pad", "startY", "I", false)
  | _ => ("OxbowReaches$Pad", "stepCount", "I", false)
def tyX5 : Nat → FieldType := fun k => match k with
  | 0 => .array .int
  | 1 => .array .int
  | 2 => .int
  | 3 => .int
  | 4 => .int
  | 5 => .int
  | _ => .int
abbrev wsX50 : List Cond := u_ws RX5 TX5 7
theorem nmX5 : ∀ a, a < 7 → ∀ b, b < 7 → a ≠ b → (TX5 a).2.1 ≠ (TX5 b).2.1 := by decide +kernel
theorem tyX5_ok : ∀ k, k < 7 → parseFieldDescriptor (TX5 k).2.2.1 = some (tyX5 k) := by decide +kernel
abbrev cX5_init : ByteArray := prog_7_method_1_code
def yX5_init : MethodName := ⟨RX5, "<init>", "()V"⟩
abbrev cX5_length : ByteArray := prog_7_method_2_code
def yX5_length : MethodName := ⟨RX5, "length", "()I"⟩
abbrev cX5_stepCount : ByteArray := prog_7_method_3_code
def yX5_stepCount : MethodName := ⟨RX5, "stepCount", "()I"⟩
abbrev cX5_clear : ByteArray := prog_7_method_4_code
def yX5_clear : MethodName := ⟨RX5, "clear", "()V"⟩
abbrev cX5_sizeOf : ByteArray := prog_7_method_5_code
def yX5_sizeOf : MethodName := ⟨RX5, "sizeOf", "(J)I"⟩
abbrev cX5_hasRoomFor : ByteArray := prog_7_method_6_code
def yX5_hasRoomFor : MethodName := ⟨RX5, "hasRoomFor", "(I)Z"⟩
abbrev cX5_append : ByteArray := prog_7_method_7_code
def yX5_append : MethodName := ⟨RX5, "append", "(JI)V"⟩
abbrev cX5_scan : ByteArray := prog_7_method_8_code
def yX5_scan : MethodName := ⟨RX5, "scan", "()I"⟩
abbrev cX5_scanNumber : ByteArray := prog_7_method_9_code
def yX5_scanNumber : MethodName := ⟨RX5, "scanNumber", "(IC)I"⟩
abbrev cX5_scanSteps : ByteArray := prog_7_method_10_code
def yX5_scanSteps : MethodName := ⟨RX5, "scanSteps", "()Z"⟩
abbrev cX5_addSteps : ByteArray := prog_7_method_11_code
def yX5_addSteps : MethodName := ⟨RX5, "addSteps", "(II)V"⟩
abbrev cX5_signAt : ByteArray := prog_7_method_12_code
def yX5_signAt : MethodName := ⟨RX5, "signAt", "(I)I"⟩
abbrev cX5_digitAt : ByteArray := prog_7_method_13_code
def yX5_digitAt : MethodName := ⟨RX5, "digitAt", "(I)I"⟩
abbrev cX5_wayAt : ByteArray := prog_7_method_14_code
def yX5_wayAt : MethodName := ⟨RX5, "wayAt", "(I)I"⟩
abbrev cX5_layCourse : ByteArray := prog_7_method_15_code
def yX5_layCourse : MethodName := ⟨RX5, "layCourse", "(LOxbowReaches$Course;)Z"⟩
def RX6 : String := "OxbowReaches$Passing"
def TX6 : u_T := fun k => match k with
  | 0 => ("OxbowReaches$Passing", "bend", "LOxbowReaches$Bend;", true)
  | 1 => ("OxbowReaches$Passing", "neck", "LOxbowReaches$Neck;", true)
  | 2 => ("OxbowReaches$Passing", "watchedCell", "I", false)
  | 3 => ("OxbowReaches$Passing", "isWatchedTaken", "Z", false)
  | _ => ("OxbowReaches$Passing", "cellsCutOff", "I", false)
def tyX6 : Nat → FieldType := fun k => match k with
  | 0 => .object "OxbowReaches$Bend"
  | 1 => .object "OxbowReaches$Neck"
  | 2 => .int
  | 3 => .boolean
  | _ => .int
abbrev wsX60 : List Cond := u_ws RX6 TX6 5
theorem nmX6 : ∀ a, a < 5 → ∀ b, b < 5 → a ≠ b → (TX6 a).2.1 ≠ (TX6 b).2.1 := by decide +kernel
theorem tyX6_ok : ∀ k, k < 5 → parseFieldDescriptor (TX6 k).2.2.1 = some (tyX6 k) := by decide +kernel
abbrev cX6_init : ByteArray := prog_8_method_1_code
def yX6_init : MethodName := ⟨RX6, "<init>", "()V"⟩
abbrev cX6_watch : ByteArray := prog_8_method_2_code
def yX6_watch : MethodName := ⟨RX6, "watch", "(I)V"⟩
abbrev cX6_passYear : ByteArray := prog_8_method_3_code
def yX6_passYear : MethodName := ⟨RX6, "passYear", "(LOxbowReaches$River;)V"⟩
abbrev cX6_wearBanks : ByteArray := prog_8_method_4_code
def yX6_wearBanks : MethodName := ⟨RX6, "wearBanks", "(LOxbowReaches$River;Z)V"⟩
abbrev cX6_growBends : ByteArray := prog_8_method_5_code
def yX6_growBends : MethodName := ⟨RX6, "growBends", "(LOxbowReaches$River;)V"⟩
abbrev cX6_noteTaken : ByteArray := prog_8_method_6_code
def yX6_noteTaken : MethodName := ⟨RX6, "noteTaken", "(LOxbowReaches$River;)V"⟩
abbrev cX6_cutNecks : ByteArray := prog_8_method_7_code
def yX6_cutNecks : MethodName := ⟨RX6, "cutNecks", "(LOxbowReaches$River;Z)V"⟩
def RX7 : String := "OxbowReaches$River"
def TX7 : u_T := fun k => match k with
  | 0 => ("OxbowReaches$River", "settings", "[I", true)
  | 1 => ("OxbowReaches$River", "course", "LOxbowReaches$Course;", true)
  | 2 => ("OxbowReaches$River", "oxbows", "LOxbowReaches$Oxbows;", true)
  | 3 => ("OxbowReaches$River", "wear", "[I", true)
  | 4 => ("OxbowReaches$River", "dikes", "[I", true)
  | 5 => ("OxbowReaches$River", "ages", "[I", true)
  | 6 => ("OxbowReaches$River", "olderAges", "[I", true)
  | 7 => ("OxbowReaches$River", "floods", "[I", true)
  | 8 => ("OxbowReaches$River", "floodCount", "I", false)
  | 9 => ("OxbowReaches$River", "year", "I", false)
  | 10 => ("OxbowReaches$River", "cutCount", "I", false)
  | _ => ("OxbowReaches$River", "growthCount", "I", false)
def tyX7 : Nat → FieldType := fun k => match k with
  | 0 => .array .int
  | 1 => .object "OxbowReaches$Course"
  | 2 => .object "OxbowReaches$Oxbows"
  | 3 => .array .int
  | 4 => .array .int
  | 5 => .array .int
  | 6 => .array .int
  | 7 => .array .int
  | 8 => .int
  | 9 => .int
  | 10 => .int
  | _ => .int
abbrev wsX70 : List Cond := u_ws RX7 TX7 12
theorem nmX7 : ∀ a, a < 12 → ∀ b, b < 12 → a ≠ b → (TX7 a).2.1 ≠ (TX7 b).2.1 := by decide +kernel
theorem tyX7_ok : ∀ k, k < 12 → parseFieldDescriptor (TX7 k).2.2.1 = some (tyX7 k) := by decide +kernel
abbrev cX7_init : ByteArray := prog_9_method_1_code
def yX7_init : MethodName := ⟨RX7, "<init>", "()V"⟩
abbrev cX7_copyFrom : ByteArray := prog_9_method_2_code
def yX7_copyFrom : MethodName := ⟨RX7, "copyFrom", "(LOxbowReaches$River;)V"⟩
abbrev cX7_clearAllButSettings : ByteArray := prog_9_method_3_code
def yX7_clearAllButSettings : MethodName := ⟨RX7, "clearAllButSettings", "()V"⟩
abbrev cX7_setting : ByteArray := prog_9_method_4_code
def yX7_setting : MethodName := ⟨RX7, "setting", "(I)I"⟩
abbrev cX7_changeSetting : ByteArray := prog_9_method_5_code
def yX7_changeSetting : MethodName := ⟨RX7, "changeSetting", "(II)V"⟩
abbrev cX7_isDike : ByteArray := prog_9_method_6_code
def yX7_isDike : MethodName := ⟨RX7, "isDike", "(I)Z"⟩
abbrev cX7_changeDike : ByteArray := prog_9_method_7_code
def yX7_changeDike : MethodName := ⟨RX7, "changeDike", "(IZ)V"⟩
abbrev cX7_dikeCount : ByteArray := prog_9_method_8_code
def yX7_dikeCount : MethodName := ⟨RX7, "dikeCount", "()I"⟩
abbrev cX7_hasFlood : ByteArray := prog_9_method_9_code
def yX7_hasFlood : MethodName := ⟨RX7, "hasFlood", "(I)Z"⟩
abbrev cX7_changeFlood : ByteArray := prog_9_method_10_code
def yX7_changeFlood : MethodName := ⟨RX7, "changeFlood", "(IZ)V"⟩
abbrev cX7_addFlood : ByteArray := prog_9_method_11_code
def yX7_addFlood : MethodName := ⟨RX7, "addFlood", "(I)V"⟩
abbrev cX7_removeFlood : ByteArray := prog_9_method_12_code
def yX7_removeFlood : MethodName := ⟨RX7, "removeFlood", "(I)V"⟩
abbrev cX7_wearOf : ByteArray := prog_9_method_13_code
def yX7_wearOf : MethodName := ⟨RX7, "wearOf", "(I)I"⟩
abbrev cX7_wearSum : ByteArray := prog_9_method_14_code
def yX7_wearSum : MethodName := ⟨RX7, "wearSum", "()I"⟩
abbrev cX7_bankCell : ByteArray := prog_9_method_15_code
def yX7_bankCell : MethodName := ⟨RX7, "bankCell", "(LOxbowReaches$Bend;I)I"⟩
abbrev cX7_isFirm : ByteArray := prog_9_method_16_code
def yX7_isFirm : MethodName := ⟨RX7, "isFirm", "(LOxbowReaches$Bend;)Z"⟩
abbrev cX7_leastWear : ByteArray := prog_9_method_17_code
def yX7_leastWear : MethodName := ⟨RX7, "leastWear", "(LOxbowReaches$Bend;)I"⟩
abbrev cX7_canGrow : ByteArray := prog_9_method_18_code
def yX7_canGrow : MethodName := ⟨RX7, "canGrow", "(LOxbowReaches$Bend;)Z"⟩
abbrev cX7_wearBank : ByteArray := prog_9_method_19_code
def yX7_wearBank : MethodName := ⟨RX7, "wearBank", "(LOxbowReaches$Bend;I)V"⟩
abbrev cX7_growBend : ByteArray := prog_9_method_20_code
def yX7_growBend : MethodName := ⟨RX7, "growBend", "(LOxbowReaches$Bend;)V"⟩
abbrev cX7_pairOf : ByteArray := prog_9_method_21_code
def yX7_pairOf : MethodName := ⟨RX7, "pairOf", "(II)I"⟩
abbrev cX7_ageOf : ByteArray := prog_9_method_22_code
def yX7_ageOf : MethodName := ⟨RX7, "ageOf", "(II)I"⟩
abbrev cX7_agePairs : ByteArray := prog_9_method_23_code
def yX7_agePairs : MethodName := ⟨RX7, "agePairs", "()V"⟩
abbrev cX7_cutBetween : ByteArray := prog_9_method_24_code
def yX7_cutBetween : MethodName := ⟨RX7, "cutBetween", "(II)V"⟩
def RX8 : String := "OxbowReaches"
def TX8 : u_T := fun k => match k with
  | 0 => ("OxbowReaches", "river", "LOxbowReaches$River;", true)
  | 1 => ("OxbowReaches", "trial", "LOxbowReaches$River;", true)
  | 2 => ("OxbowReaches", "slots", "[LOxbowReaches$River;", true)
  | 3 => ("OxbowReaches", "isSaved", "[Z", true)
  | 4 => ("OxbowReaches", "history", "LOxbowReaches$History;", true)
  | 5 => ("OxbowReaches", "pad", "LOxbowReaches$Pad;", true)
  | 6 => ("OxbowReaches", "passing", "LOxbowReaches$Passing;", true)
  | 7 => ("OxbowReaches", "foundBend", "LOxbowReaches$Bend;", true)
  | _ => ("OxbowReaches", "foundNeck", "LOxbowReaches$Neck;", true)
def tyX8 : Nat → FieldType := fun k => match k with
  | 0 => .object "OxbowReaches$River"
  | 1 => .object "OxbowReaches$River"
  | 2 => .array (.object "OxbowReaches$River")
  | 3 => .array .boolean
  | 4 => .object "OxbowReaches$History"
  | 5 => .object "OxbowReaches$Pad"
  | 6 => .object "OxbowReaches$Passing"
  | 7 => .object "OxbowReaches$Bend"
  | _ => .object "OxbowReaches$Neck"
abbrev wsX80 : List Cond := u_ws RX8 TX8 9
theorem nmX8 : ∀ a, a < 9 → ∀ b, b < 9 → a ≠ b → (TX8 a).2.1 ≠ (TX8 b).2.1 := by decide +kernel
theorem tyX8_ok : ∀ k, k < 9 → parseFieldDescriptor (TX8 k).2.2.1 = some (tyX8 k) := by decide +kernel
abbrev cX8_init : ByteArray := prog_1_method_1_code
def yX8_init : MethodName := ⟨RX8, "<init>", "()V"⟩
abbrev cX8_set : ByteArray := prog_1_method_2_code
def yX8_set : MethodName := ⟨RX8, "set", "(II)I"⟩
abbrev cX8_read : ByteArray := prog_1_method_3_code
def yX8_read : MethodName := ⟨RX8, "read", "()I"⟩
abbrev cX8_dike : ByteArray := prog_1_method_4_code
def yX8_dike : MethodName := ⟨RX8, "dike", "(IIZ)I"⟩
abbrev cX8_flood : ByteArray := prog_1_method_5_code
def yX8_flood : MethodName := ⟨RX8, "flood", "(IZ)I"⟩
abbrev cX8_cut : ByteArray := prog_1_method_6_code
def yX8_cut : MethodName := ⟨RX8, "cut", "(I)I"⟩
abbrev cX8_pass : ByteArray := prog_1_method_7_code
def yX8_pass : MethodName := ⟨RX8, "pass", "(I)I"⟩
abbrev cX8_cell : ByteArray := prog_1_method_8_code
def yX8_cell : MethodName := ⟨RX8, "cell", "(III)I"⟩
abbrev cX8_course : ByteArray := prog_1_method_9_code
def yX8_course : MethodName := ⟨RX8, "course", "(II)I"⟩
abbrev cX8_bend : ByteArray := prog_1_method_10_code
def yX8_bend : MethodName := ⟨RX8, "bend", "(II)I"⟩
abbrev cX8_neck : ByteArray := prog_1_method_11_code
def yX8_neck : MethodName := ⟨RX8, "neck", "(II)I"⟩
abbrev cX8_oxbow : ByteArray := prog_1_method_12_code
def yX8_oxbow : MethodName := ⟨RX8, "oxbow", "(II)I"⟩
abbrev cX8_count : ByteArray := prog_1_method_13_code
def yX8_count : MethodName := ⟨RX8, "count", "(I)I"⟩
abbrev cX8_isFlood : ByteArray := prog_1_method_14_code
def yX8_isFlood : MethodName := ⟨RX8, "isFlood", "(I)I"⟩
abbrev cX8_ifPassed : ByteArray := prog_1_method_15_code
def yX8_ifPassed : MethodName := ⟨RX8, "ifPassed", "(II)I"⟩
abbrev cX8_nextCut : ByteArray := prog_1_method_16_code
def yX8_nextCut : MethodName := ⟨RX8, "nextCut", "(I)I"⟩
abbrev cX8_taken : ByteArray := prog_1_method_17_code
def yX8_taken : MethodName := ⟨RX8, "taken", "(II)I"⟩
abbrev cX8_put : ByteArray := prog_1_method_18_code
def yX8_put : MethodName := ⟨RX8, "put", "(J)I"⟩
abbrev cX8_wipe : ByteArray := prog_1_method_19_code
def yX8_wipe : MethodName := ⟨RX8, "wipe", "()I"⟩
abbrev cX8_fault : ByteArray := prog_1_method_20_code
def yX8_fault : MethodName := ⟨RX8, "fault", "()I"⟩
abbrev cX8_undo : ByteArray := prog_1_method_21_code
def yX8_undo : MethodName := ⟨RX8, "undo", "()I"⟩
abbrev cX8_save : ByteArray := prog_1_method_22_code
def yX8_save : MethodName := ⟨RX8, "save", "(I)I"⟩
abbrev cX8_restore : ByteArray := prog_1_method_23_code
def yX8_restore : MethodName := ⟨RX8, "restore", "(I)I"⟩
abbrev cX8_countBends : ByteArray := prog_1_method_24_code
def yX8_countBends : MethodName := ⟨RX8, "countBends", "(Z)I"⟩
abbrev cX8_countNecks : ByteArray := prog_1_method_25_code
def yX8_countNecks : MethodName := ⟨RX8, "countNecks", "()I"⟩
abbrev cX8_orNone : ByteArray := prog_1_method_26_code
def yX8_orNone : MethodName := ⟨RX8, "orNone", "(I)I"⟩
abbrev cX8_asNumber : ByteArray := prog_1_method_27_code
def yX8_asNumber : MethodName := ⟨RX8, "asNumber", "(Z)I"⟩
abbrev cX8_cellAt : ByteArray := prog_1_method_28_code
def yX8_cellAt : MethodName := ⟨RX8, "cellAt", "(II)I"⟩
abbrev cX8_isOnLand : ByteArray := prog_1_method_29_code
def yX8_isOnLand : MethodName := ⟨RX8, "isOnLand", "(I)Z"⟩
abbrev cX8_beside : ByteArray := prog_1_method_30_code
def yX8_beside : MethodName := ⟨RX8, "beside", "(II)I"⟩
abbrev cX8_areOpposite : ByteArray := prog_1_method_31_code
def yX8_areOpposite : MethodName := ⟨RX8, "areOpposite", "(II)Z"⟩
def RX9 : String := "OxbowReachesModel"
def TX9 : u_T := fun k => match k with
  | 0 => ("OxbowReachesModel", "s", "[I", true)
  | 1 => ("OxbowReachesModel", "aside", "[I", true)
  | 2 => ("OxbowReachesModel", "before", "[I", true)
  | 3 => ("OxbowReachesModel", "known", "I", false)
  | 4 => ("OxbowReachesModel", "slots", "[I", true)
  | 5 => ("OxbowReachesModel", "isSaved", "[Z", true)
  | 6 => ("OxbowReachesModel", "pad", "[I", true)
  | 7 => ("OxbowReachesModel", "length", "I", false)
  | 8 => ("OxbowReachesModel", "firsts", "[I", true)
  | 9 => ("OxbowReachesModel", "lasts", "[I", true)
  | 10 => ("OxbowReachesModel", "isOn", "[Z", true)
  | 11 => ("OxbowReachesModel", "bends", "I", false)
  | 12 => ("OxbowReachesModel", "row", "[I", true)
  | 13 => ("OxbowReachesModel", "takenCell", "I", false)
  | 14 => ("OxbowReachesModel", "isTaken", "Z", false)
  | 15 => ("OxbowReachesModel", "neckI", "I", false)
  | 16 => ("OxbowReachesModel", "neckJ", "I", false)
  | 17 => ("OxbowReachesModel", "necks", "I", false)
  | 18 => ("OxbowReachesModel", "isNeck", "[Z", true)
  | 19 => ("OxbowReachesModel", "place", "I", false)
  | 20 => ("OxbowReachesModel", "isWrong", "Z", false)
  | 21 => ("OxbowReachesModel", "told", "[I", true)
  | 22 => ("OxbowReachesModel", "toldMany", "I", false)
  | _ => ("OxbowReachesModel", "isOff", "Z", false)
def tyX9 : Nat → FieldType := fun k => match k with
  | 0 => .array .int
  | 1 => .array .int
  | 2 => .array .int
  | 3 => .int
  | 4 => .array .int
  | 5 => .array .boolean
  | 6 => .array .int
  | 7 => .int
  | 8 => .array .int
  | 9 => .array .int
  | 10 => .array .boolean
  | 11 => .int
  | 12 => .array .int
  | 13 => .int
  | 14 => .boolean
  | 15 => .int
  | 16 => .int
  | 17 => .int
  | 18 => .array .boolean
  | 19 => .int
  | 20 => .boolean
  | 21 => .array .int
  | 22 => .int
  | _ => .boolean
abbrev wsX90 : List Cond := u_ws RX9 TX9 24
theorem nmX9 : ∀ a, a < 24 → ∀ b, b < 24 → a ≠ b → (TX9 a).2.1 ≠ (TX9 b).2.1 := by decide +kernel
theorem tyX9_ok : ∀ k, k < 24 → parseFieldDescriptor (TX9 k).2.2.1 = some (tyX9 k) := by decide +kernel
abbrev cX9_init : ByteArray := prog_11_method_1_code
def yX9_init : MethodName := ⟨RX9, "<init>", "()V"⟩
abbrev cX9_begin : ByteArray := prog_11_method_2_code
def yX9_begin : MethodName := ⟨RX9, "begin", "()V"⟩
abbrev cX9_in : ByteArray := prog_11_method_4_code
def yX9_in : MethodName := ⟨RX9, "in", "(III)Z"⟩
abbrev cX9_isCell : ByteArray := prog_11_method_5_code
def yX9_isCell : MethodName := ⟨RX9, "isCell", "(II)Z"⟩
abbrev cX9_know : ByteArray := prog_11_method_6_code
def yX9_know : MethodName := ⟨RX9, "know", "()V"⟩
abbrev cX9_putAside : ByteArray := prog_11_method_7_code
def yX9_putAside : MethodName := ⟨RX9, "putAside", "()V"⟩
abbrev cX9_putBack : ByteArray := prog_11_method_8_code
def yX9_putBack : MethodName := ⟨RX9, "putBack", "()V"⟩
abbrev cX9_stepped : ByteArray := prog_11_method_9_code
def yX9_stepped : MethodName := ⟨RX9, "stepped", "(II)I"⟩
abbrev cX9_way : ByteArray := prog_11_method_10_code
def yX9_way : MethodName := ⟨RX9, "way", "(I)I"⟩
abbrev cX9_numberOf : ByteArray := prog_11_method_11_code
def yX9_numberOf : MethodName := ⟨RX9, "numberOf", "(I)I"⟩
abbrev cX9_findBends : ByteArray := prog_11_method_12_code
def yX9_findBends : MethodName := ⟨RX9, "findBends", "()V"⟩
abbrev cX9_wayOf : ByteArray := prog_11_method_13_code
def yX9_wayOf : MethodName := ⟨RX9, "wayOf", "(I)I"⟩
abbrev cX9_bank : ByteArray := prog_11_method_14_code
def yX9_bank : MethodName := ⟨RX9, "bank", "(II)I"⟩
abbrev cX9_isFirm : ByteArray := prog_11_method_15_code
def yX9_isFirm : MethodName := ⟨RX9, "isFirm", "(I)Z"⟩
abbrev cX9_leastWear : ByteArray := prog_11_method_16_code
def yX9_leastWear : MethodName := ⟨RX9, "leastWear", "(I)I"⟩
abbrev cX9_canGrow : ByteArray := prog_11_method_17_code
def yX9_canGrow : MethodName := ⟨RX9, "canGrow", "(I)Z"⟩
abbrev cX9_dropOxbow : ByteArray := prog_11_method_18_code
def yX9_dropOxbow : MethodName := ⟨RX9, "dropOxbow", "(I)V"⟩
abbrev cX9_grow : ByteArray := prog_11_method_19_code
def yX9_grow : MethodName := ⟨RX9, "grow", "(I)I"⟩
abbrev cX9_pair : ByteArray := prog_11_method_20_code
def yX9_pair : MethodName := ⟨RX9, "pair", "(II)I"⟩
abbrev cX9_areNeighbours : ByteArray := prog_11_method_21_code
def yX9_areNeighbours : MethodName := ⟨RX9, "areNeighbours", "(II)Z"⟩
abbrev cX9_findNeck : ByteArray := prog_11_method_22_code
def yX9_findNeck : MethodName := ⟨RX9, "findNeck", "(II)Z"⟩
abbrev cX9_cutNeck : ByteArray := prog_11_method_23_code
def yX9_cutNeck : MethodName := ⟨RX9, "cutNeck", "()V"⟩
abbrev cX9_isFloodYear : ByteArray := prog_11_method_24_code
def yX9_isFloodYear : MethodName := ⟨RX9, "isFloodYear", "(I)Z"⟩
abbrev cX9_wear : ByteArray := prog_11_method_25_code
def yX9_wear : MethodName := ⟨RX9, "wear", "()V"⟩
abbrev cX9_growAll : ByteArray := prog_11_method_26_code
def yX9_growAll : MethodName := ⟨RX9, "growAll", "()V"⟩
abbrev cX9_age : ByteArray := prog_11_method_27_code
def yX9_age : MethodName := ⟨RX9, "age", "()V"⟩
abbrev cX9_goOn : ByteArray := prog_11_method_28_code
def yX9_goOn : MethodName := ⟨RX9, "goOn", "()I"⟩
abbrev cX9_set : ByteArray := prog_11_method_29_code
def yX9_set : MethodName := ⟨RX9, "set", "(II)I"⟩
abbrev cX9_dikes : ByteArray := prog_11_method_30_code
def yX9_dikes : MethodName := ⟨RX9, "dikes", "()I"⟩
abbrev cX9_dike : ByteArray := prog_11_method_31_code
def yX9_dike : MethodName := ⟨RX9, "dike", "(IIZ)I"⟩
abbrev cX9_flood : ByteArray := prog_11_method_32_code
def yX9_flood : MethodName := ⟨RX9, "flood", "(IZ)I"⟩
abbrev cX9_cut : ByteArray := prog_11_method_33_code
def yX9_cut : MethodName := ⟨RX9, "cut", "(I)I"⟩
abbrev cX9_pass : ByteArray := prog_11_method_34_code
def yX9_pass : MethodName := ⟨RX9, "pass", "(I)I"⟩
abbrev cX9_cell : ByteArray := prog_11_method_35_code
def yX9_cell : MethodName := ⟨RX9, "cell", "(III)I"⟩
abbrev cX9_course : ByteArray := prog_11_method_36_code
def yX9_course : MethodName := ⟨RX9, "course", "(II)I"⟩
abbrev cX9_bend : ByteArray := prog_11_method_37_code
def yX9_bend : MethodName := ⟨RX9, "bend", "(II)I"⟩
abbrev cX9_neck : ByteArray := prog_11_method_38_code
def yX9_neck : MethodName := ⟨RX9, "neck", "(II)I"⟩
abbrev cX9_oxbow : ByteArray := prog_11_method_39_code
def yX9_oxbow : MethodName := ⟨RX9, "oxbow", "(II)I"⟩
abbrev cX9_firm : ByteArray := prog_11_method_40_code
def yX9_firm : MethodName := ⟨RX9, "firm", "()I"⟩
abbrev cX9_apart : ByteArray := prog_11_method_41_code
def yX9_apart : MethodName := ⟨RX9, "apart", "(II)I"⟩
abbrev cX9_winding : ByteArray := prog_11_method_42_code
def yX9_winding : MethodName := ⟨RX9, "winding", "()I"⟩
abbrev cX9_allWear : ByteArray := prog_11_method_43_code
def yX9_allWear : MethodName := ⟨RX9, "allWear", "()I"⟩
abbrev cX9_allNecks : ByteArray := prog_11_method_44_code
def yX9_allNecks : MethodName := ⟨RX9, "allNecks", "()I"⟩
abbrev cX9_count : ByteArray := prog_11_method_45_code
def yX9_count : MethodName := ⟨RX9, "count", "(I)I"⟩
abbrev cX9_isFlood : ByteArray := prog_11_method_46_code
def yX9_isFlood : MethodName := ⟨RX9, "isFlood", "(I)I"⟩
abbrev cX9_ifPassed : ByteArray := prog_11_method_47_code
def yX9_ifPassed : MethodName := ⟨RX9, "ifPassed", "(II)I"⟩
abbrev cX9_nextCut : ByteArray := prog_11_method_48_code
def yX9_nextCut : MethodName := ⟨RX9, "nextCut", "(I)I"⟩
abbrev cX9_taken : ByteArray := prog_11_method_49_code
def yX9_taken : MethodName := ⟨RX9, "taken", "(II)I"⟩
abbrev cX9_put : ByteArray := prog_11_method_50_code
def yX9_put : MethodName := ⟨RX9, "put", "(J)I"⟩
abbrev cX9_wipe : ByteArray := prog_11_method_51_code
def yX9_wipe : MethodName := ⟨RX9, "wipe", "()I"⟩
abbrev cX9_sign : ByteArray := prog_11_method_52_code
def yX9_sign : MethodName := ⟨RX9, "sign", "(II)I"⟩
abbrev cX9_isNext : ByteArray := prog_11_method_53_code
def yX9_isNext : MethodName := ⟨RX9, "isNext", "(II)Z"⟩
abbrev cX9_number : ByteArray := prog_11_method_54_code
def yX9_number : MethodName := ⟨RX9, "number", "(I)I"⟩
abbrev cX9_tell : ByteArray := prog_11_method_55_code
def yX9_tell : MethodName := ⟨RX9, "tell", "(I)V"⟩
abbrev cX9_readPad : ByteArray := prog_11_method_56_code
def yX9_readPad : MethodName := ⟨RX9, "readPad", "()V"⟩
abbrev cX9_fault : ByteArray := prog_11_method_57_code
def yX9_fault : MethodName := ⟨RX9, "fault", "()I"⟩
abbrev cX9_read : ByteArray := prog_11_method_58_code
def yX9_read : MethodName := ⟨RX9, "read", "()I"⟩
abbrev cX9_undo : ByteArray := prog_11_method_59_code
def yX9_undo : MethodName := ⟨RX9, "undo", "()I"⟩
abbrev cX9_save : ByteArray := prog_11_method_60_code
def yX9_save : MethodName := ⟨RX9, "save", "(I)I"⟩
abbrev cX9_restore : ByteArray := prog_11_method_61_code
def yX9_restore : MethodName := ⟨RX9, "restore", "(I)I"⟩
def RJ9 : String := "java/lang/Math"
def TJ9 : u_T := fun k => match k with
  | _ => ("", "", "", false)
def tyJ9 : Nat → FieldType := fun k => match k with
  | _ => .int
abbrev wsJ90 : List Cond := u_ws RJ9 TJ9 0
theorem nmJ9 : ∀ a, a < 0 → ∀ b, b < 0 → a ≠ b → (TJ9 a).2.1 ≠ (TJ9 b).2.1 := by decide +kernel
theorem tyJ9_ok : ∀ k, k < 0 → parseFieldDescriptor (TJ9 k).2.2.1 = some (tyJ9 k) := by decide +kernel
abbrev cJ9_abs_0f7a4 : ByteArray := prog_12_method_59_code
def yJ9_abs_0f7a4 : MethodName := ⟨RJ9, "abs", "(I)I"⟩
abbrev cJ9_max_7cf53 : ByteArray := prog_12_method_65_code
def yJ9_max_7cf53 : MethodName := ⟨RJ9, "max", "(II)I"⟩
abbrev cJ9_min_7cf53 : ByteArray := prog_12_method_69_code
def yJ9_min_7cf53 : MethodName := ⟨RJ9, "min", "(II)I"⟩
def RJ10 : String := "java/lang/System"
def TJ10 : u_T := fun k => match k with
  | _ => ("", "", "", false)
def tyJ10 : Nat → FieldType := fun k => match k with
  | _ => .int
abbrev wsJ100 : List Cond := u_ws RJ10 TJ10 0
theorem nmJ10 : ∀ a, a < 0 → ∀ b, b < 0 → a ≠ b → (TJ10 a).2.1 ≠ (TJ10 b).2.1 := by decide +kernel
theorem tyJ10_ok : ∀ k, k < 0 → parseFieldDescriptor (TJ10 k).2.2.1 = some (tyJ10 k) := by decide +kernel
def RJ7 : String := "java/util/Arrays"
def TJ7 : u_T := fun k => match k with
  | _ => ("", "", "", false)
def tyJ7 : Nat → FieldType := fun k => match k with
  | _ => .int
abbrev wsJ70 : List Cond := u_ws RJ7 TJ7 0
theorem nmJ7 : ∀ a, a < 0 → ∀ b, b < 0 → a ≠ b → (TJ7 a).2.1 ≠ (TJ7 b).2.1 := by decide +kernel
theorem tyJ7_ok : ∀ k, k < 0 → parseFieldDescriptor (TJ7 k).2.2.1 = some (tyJ7 k) := by decide +kernel
abbrev cJ7_fill_53178 : ByteArray := prog_14_method_103_code
def yJ7_fill_53178 : MethodName := ⟨RJ7, "fill", "([II)V"⟩
def RL : String := "OxbowReachesLaw"
abbrev cL_law : ByteArray := code
def yL_law : MethodName := ⟨RL, "law", "([I)Z"⟩
end
section
theorem dX0_init_0 : decode cX0_init 0 = .ok (.aload_n 0, 1) := by decide +kernel
theorem dX0_init_1 : decode cX0_init 1 = .ok (.invokespecial 3, 3) := by decide +kernel
theorem dX0_init_4 : decode cX0_init 4 = .ok (.return_, 1) := by decide +kernel
theorem dX0_seekFrom_0 : decode cX0_seekFrom 0 = .ok (.iload_n 2, 1) := by decide +kernel
theorem dX0_seekFrom_1 : decode cX0_seekFrom 1 = .ok (.iconst 1, 1) := by decide +kernel
theorem dX0_seekFrom_2 : decode cX0_seekFrom 2 = .ok (.invokestatic 9, 3) := by decide +kernel
theorem dX0_seekFrom_5 : decode cX0_seekFrom 5 = .ok (.istore_n 3, 1) := by decide +kernel
theorem dX0_seekFrom_6 : decode cX0_seekFrom 6 = .ok (.iload_n 3, 1) := by decide +kernel
theorem dX0_seekFrom_7 : decode cX0_seekFrom 7 = .ok (.aload_n 1, 1) := by decide +kernel
theorem dX0_seekFrom_8 : decode cX0_seekFrom 8 = .ok (.invokevirtual 15, 3) := by decide +kernel
theorem dX0_seekFrom_11 : decode cX0_seekFrom 11 = .ok (.if_icmp .ge 90, 3) := by decide +kernel
theorem dX0_seekFrom_14 : decode cX0_seekFrom 14 = .ok (.aload_n 1, 1) := by decide +kernel
theorem dX0_seekFrom_15 : decode cX0_seekFrom 15 = .ok (.iload_n 3, 1) := by decide +kernel
theorem dX0_seekFrom_16 : decode cX0_seekFrom 16 = .ok (.iconst 1, 1) := by decide +kernel
theorem dX0_seekFrom_17 : decode cX0_seekFrom 17 = .ok (.isub, 1) := by decide +kernel
theorem dX0_seekFrom_18 : decode cX0_seekFrom 18 = .ok (.invokevirtual 21, 3) := by decide +kernel
theorem dX0_seekFrom_21 : decode cX0_seekFrom 21 = .ok (.istore 4, 2) := by decide +kernel
theorem dX0_seekFrom_23 : decode cX0_seekFrom 23 = .ok (.aload_n 1, 1) := by decide +kernel
theorem dX0_seekFrom_24 : decode cX0_seekFrom 24 = .ok (.iload_n 3, 1) := by decide +kernel
theorem dX0_seekFrom_25 : decode cX0_seekFrom 25 = .ok (.invokevirtual 21, 3) := by decide +kernel
theorem dX0_seekFrom_28 : decode cX0_seekFrom 28 = .ok (.istore 5, 2) := by decide +kernel
theorem dX0_seekFrom_30 : decode cX0_seekFrom 30 = .ok (.iload 4, 2) := by decide +kernel
theorem dX0_seekFrom_32 : decode cX0_seekFrom 32 = .ok (.iload 5, 2) := by decide +kernel
theorem dX0_seekFrom_34 : decode cX0_seekFrom 34 = .ok (.if_icmp .eq 61, 3) := by decide +kernel
theorem dX0_seekFrom_37 : decode cX0_seekFrom 37 = .ok (.iload 5, 2) := by decide +kernel
theorem dX0_seekFrom_39 : decode cX0_seekFrom 39 = .ok (.iconst (-1), 1) := by decide +kernel
theorem dX0_seekFrom_40 : decode cX0_seekFrom 40 = .ok (.if_icmp .eq 55, 3) := by decide +kernel
theorem dX0_seekFrom_43 : decode cX0_seekFrom 43 = .ok (.aload_n 1, 1) := by decide +kernel
theorem dX0_seekFrom_44 : decode cX0_seekFrom 44 = .ok (.iload_n 3, 1) := by decide +kernel
theorem dX0_seekFrom_45 : decode cX0_seekFrom 45 = .ok (.iload 5, 2) := by decide +kernel
theorem dX0_seekFrom_47 : decode cX0_seekFrom 47 = .ok (.invokestatic 25, 3) := by decide +kernel
theorem dX0_seekFrom_50 : decode cX0_seekFrom 50 = .ok (.istore 6, 2) := by decide +kernel
theorem dX0_seekFrom_52 : decode cX0_seekFrom 52 = .ok (.aload_n 1, 1) := by decide +kernel
theorem dX0_seekFrom_53 : decode cX0_seekFrom 53 = .ok (.iload 6, 2) := by decide +kernel
theorem dX0_seekFrom_55 : decode cX0_seekFrom 55 = .ok (.invokevirtual 21, 3) := by decide +kernel
theorem dX0_seekFrom_58 : decode cX0_seekFrom 58 = .ok (.istore 7, 2) := by decide +kernel
theorem dX0_seekFrom_60 : decode cX0_seekFrom 60 = .ok (.iload 7, 2) := by decide +kernel
theorem dX0_seekFrom_62 : decode cX0_seekFrom 62 = .ok (.iconst (-1), 1) := by decide +kernel
theorem dX0_seekFrom_63 : decode cX0_seekFrom 63 = .ok (.if_icmp .eq 32, 3) := by decide +kernel
theorem dX0_seekFrom_66 : decode cX0_seekFrom 66 = .ok (.iload 4, 2) := by decide +kernel
theorem dX0_seekFrom_68 : decode cX0_seekFrom 68 = .ok (.iload 7, 2) := by decide +kernel
theorem dX0_seekFrom_70 : decode cX0_seekFrom 70 = .ok (.invokestatic 31, 3) := by decide +kernel
theorem dX0_seekFrom_73 : decode cX0_seekFrom 73 = .ok (.ifCond .eq 22, 3) := by decide +kernel
theorem dX0_seekFrom_76 : decode cX0_seekFrom 76 = .ok (.aload_n 0, 1) := by decide +kernel
theorem dX0_seekFrom_77 : decode cX0_seekFrom 77 = .ok (.iload_n 3, 1) := by decide +kernel
theorem dX0_seekFrom_78 : decode cX0_seekFrom 78 = .ok (.putfield 35, 3) := by decide +kernel
theorem dX0_seekFrom_81 : decode cX0_seekFrom 81 = .ok (.aload_n 0, 1) := by decide +kernel
theorem dX0_seekFrom_82 : decode cX0_seekFrom 82 = .ok (.iload 6, 2) := by decide +kernel
theorem dX0_seekFrom_84 : decode cX0_seekFrom 84 = .ok (.putfield 39, 3) := by decide +kernel
theorem dX0_seekFrom_87 : decode cX0_seekFrom 87 = .ok (.aload_n 0, 1) := by decide +kernel
theorem dX0_seekFrom_88 : decode cX0_seekFrom 88 = .ok (.iload 4, 2) := by decide +kernel
theorem dX0_seekFrom_90 : decode cX0_seekFrom 90 = .ok (.putfield 42, 3) := by decide +kernel
theorem dX0_seekFrom_93 : decode cX0_seekFrom 93 = .ok (.iconst 1, 1) := by decide +kernel
theorem dX0_seekFrom_94 : decode cX0_seekFrom 94 = .ok (.ireturn, 1) := by decide +kernel
theorem dX0_seekFrom_95 : decode cX0_seekFrom 95 = .ok (.iinc 3 1, 3) := by decide +kernel
theorem dX0_seekFrom_98 : decode cX0_seekFrom 98 = .ok (.goto (-92), 3) := by decide +kernel
theorem dX0_seekFrom_101 : decode cX0_seekFrom 101 = .ok (.iconst 0, 1) := by decide +kernel
theorem dX0_seekFrom_102 : decode cX0_seekFrom 102 = .ok (.ireturn, 1) := by decide +kernel
theorem dX0_seekNumbered_0 : decode cX0_seekNumbered 0 = .ok (.iload_n 2, 1) := by decide +kernel
theorem dX0_seekNumbered_1 : decode cX0_seekNumbered 1 = .ok (.ifCond .lt 10, 3) := by decide +kernel
theorem dX0_seekNumbered_4 : decode cX0_seekNumbered 4 = .ok (.iload_n 2, 1) := by decide +kernel
theorem dX0_seekNumbered_5 : decode cX0_seekNumbered 5 = .ok (.sipush 150, 3) := by decide +kernel
theorem dX0_seekNumbered_8 : decode cX0_seekNumbered 8 = .ok (.if_icmp .lt 5, 3) := by decide +kernel
theorem dX0_seekNumbered_11 : decode cX0_seekNumbered 11 = .ok (.iconst 0, 1) := by decide +kernel
theorem dX0_seekNumbered_12 : decode cX0_seekNumbered 12 = .ok (.ireturn, 1) := by decide +kernel
theorem dX0_seekNumbered_13 : decode cX0_seekNumbered 13 = .ok (.iconst 0, 1) := by decide +kernel
theorem dX0_seekNumbered_14 : decode cX0_seekNumbered 14 = .ok (.istore_n 3, 1) := by decide +kernel
theorem dX0_seekNumbered_15 : decode cX0_seekNumbered 15 = .ok (.iconst 0, 1) := by decide +kernel
theorem dX0_seekNumbered_16 : decode cX0_seekNumbered 16 = .ok (.istore 4, 2) := by decide +kernel
theorem dX0_seekNumbered_18 : decode cX0_seekNumbered 18 = .ok (.iload 4, 2) := by decide +kernel
theorem dX0_seekNumbered_20 : decode cX0_seekNumbered 20 = .ok (.iload_n 2, 1) := by decide +kernel
theorem dX0_seekNumbered_21 : decode cX0_seekNumbered 21 = .ok (.if_icmp .gt 27, 3) := by decide +kernel
theorem dX0_seekNumbered_24 : decode cX0_seekNumbered 24 = .ok (.aload_n 0, 1) := by decide +kernel
theorem dX0_seekNumbered_25 : decode cX0_seekNumbered 25 = .ok (.aload_n 1, 1) := by decide +kernel
theorem dX0_seekNumbered_26 : decode cX0_seekNumbered 26 = .ok (.iload_n 3, 1) := by decide +kernel
theorem dX0_seekNumbered_27 : decode cX0_seekNumbered 27 = .ok (.invokevirtual 45, 3) := by decide +kernel
theorem dX0_seekNumbered_30 : decode cX0_seekNumbered 30 = .ok (.ifCond .ne 5, 3) := by decide +kernel
theorem dX0_seekNumbered_33 : decode cX0_seekNumbered 33 = .ok (.iconst 0, 1) := by decide +kernel
theorem dX0_seekNumbered_34 : decode cX0_seekNumbered 34 = .ok (.ireturn, 1) := by decide +kernel
theorem dX0_seekNumbered_35 : decode cX0_seekNumbered 35 = .ok (.aload_n 0, 1) := by decide +kernel
theorem dX0_seekNumbered_36 : decode cX0_seekNumbered 36 = .ok (.getfield 35, 3) := by decide +kernel
theorem dX0_seekNumbered_39 : decode cX0_seekNumbered 39 = .ok (.iconst 1, 1) := by decide +kernel
theorem dX0_seekNumbered_40 : decode cX0_seekNumbered 40 = .ok (.iadd, 1) := by decide +kernel
theorem dX0_seekNumbered_41 : decode cX0_seekNumbered 41 = .ok (.istore_n 3, 1) := by decide +kernel
theorem dX0_seekNumbered_42 : decode cX0_seekNumbered 42 = .ok (.iinc 4 1, 3) := by decide +kernel
theorem dX0_seekNumbered_45 : decode cX0_seekNumbered 45 = .ok (.goto (-27), 3) := by decide +kernel
theorem dX0_seekNumbered_48 : decode cX0_seekNumbered 48 = .ok (.iconst 1, 1) := by decide +kernel
theorem dX0_seekNumbered_49 : decode cX0_seekNumbered 49 = .ok (.ireturn, 1) := by decide +kernel
theorem dX0_endOfRow_0 : decode cX0_endOfRow 0 = .ok (.iload_n 1, 1) := by decide +kernel
theorem dX0_endOfRow_1 : decode cX0_endOfRow 1 = .ok (.istore_n 3, 1) := by decide +kernel
theorem dX0_endOfRow_2 : decode cX0_endOfRow 2 = .ok (.iload_n 3, 1) := by decide +kernel
theorem dX0_endOfRow_3 : decode cX0_endOfRow 3 = .ok (.aload_n 0, 1) := by decide +kernel
theorem dX0_endOfRow_4 : decode cX0_endOfRow 4 = .ok (.invokevirtual 15, 3) := by decide +kernel
theorem dX0_endOfRow_7 : decode cX0_endOfRow 7 = .ok (.if_icmp .ge 18, 3) := by decide +kernel
theorem dX0_endOfRow_10 : decode cX0_endOfRow 10 = .ok (.aload_n 0, 1) := by decide +kernel
theorem dX0_endOfRow_11 : decode cX0_endOfRow 11 = .ok (.iload_n 3, 1) := by decide +kernel
theorem dX0_endOfRow_12 : decode cX0_endOfRow 12 = .ok (.invokevirtual 21, 3) := by decide +kernel
theorem dX0_endOfRow_15 : decode cX0_endOfRow 15 = .ok (.iload_n 2, 1) := by decide +kernel
theorem dX0_endOfRow_16 : decode cX0_endOfRow 16 = .ok (.if_icmp .ne 9, 3) := by decide +kernel
theorem dX0_endOfRow_19 : decode cX0_endOfRow 19 = .ok (.iinc 3 1, 3) := by decide +kernel
theorem dX0_endOfRow_22 : decode cX0_endOfRow 22 = .ok (.goto (-20), 3) := by decide +kernel
theorem dX0_endOfRow_25 : decode cX0_endOfRow 25 = .ok (.iload_n 3, 1) := by decide +kernel
theorem dX0_endOfRow_26 : decode cX0_endOfRow 26 = .ok (.ireturn, 1) := by decide +kernel
theorem dX1_init_0 : decode cX1_init 0 = .ok (.aload_n 0, 1) := by decide +kernel
theorem dX1_init_1 : decode cX1_init 1 = .ok (.invokespecial 3, 3) := by decide +kernel
theorem dX1_init_4 : decode cX1_init 4 = .ok (.aload_n 0, 1) := by decide +kernel
theorem dX1_init_5 : decode cX1_init 5 = .ok (.sipush 150, 3) := by decide +kernel
theorem dX1_init_8 : decode cX1_init 8 = .ok (.newarray .int, 2) := by decide +kernel
theorem dX1_init_10 : decode cX1_init 10 = .ok (.putfield 9, 3) := by decide +kernel
theorem dX1_init_13 : decode cX1_init 13 = .ok (.aload_n 0, 1) := by decide +kernel
theorem dX1_init_14 : decode cX1_init 14 = .ok (.sipush 240, 3) := by decide +kernel
theorem dX1_init_17 : decode cX1_init 17 = .ok (.newarray .int, 2) := by decide +kernel
theorem dX1_init_19 : decode cX1_init 19 = .ok (.putfield 15, 3) := by decide +kernel
theorem dX1_init_22 : decode cX1_init 22 = .ok (.aload_n 0, 1) := by decide +kernel
theorem dX1_init_23 : decode cX1_init 23 = .ok (.invokevirtual 18, 3) := by decide +kernel
theorem dX1_init_26 : decode cX1_init 26 = .ok (.return_, 1) := by decide +kernel
theorem dX1_clear_0 : decode cX1_clear 0 = .ok (.aload_n 0, 1) := by decide +kernel
theorem dX1_clear_1 : decode cX1_clear 1 = .ok (.iconst 0, 1) := by decide +kernel
theorem dX1_clear_2 : decode cX1_clear 2 = .ok (.putfield 21, 3) := by decide +kernel
theorem dX1_clear_5 : decode cX1_clear 5 = .ok (.aload_n 0, 1) := by decide +kernel
theorem dX1_clear_6 : decode cX1_clear 6 = .ok (.getfield 15, 3) := by decide +kernel
theorem dX1_clear_9 : decode cX1_clear 9 = .ok (.iconst (-1), 1) := by decide +kernel
theorem dX1_clear_10 : decode cX1_clear 10 = .ok (.invokestatic 25, 3) := by decide +kernel
theorem dX1_clear_13 : decode cX1_clear 13 = .ok (.return_, 1) := by decide +kernel
theorem dX1_copyFrom_0 : decode cX1_copyFrom 0 = .ok (.aload_n 1, 1) := by decide +kernel
theorem dX1_copyFrom_1 : decode cX1_copyFrom 1 = .ok (.getfield 9, 3) := by decide +kernel
theorem dX1_copyFrom_4 : decode cX1_copyFrom 4 = .ok (.iconst 0, 1) := by decide +kernel
theorem dX1_copyFrom_5 : decode cX1_copyFrom 5 = .ok (.aload_n 0, 1) := by decide +kernel
theorem dX1_copyFrom_6 : decode cX1_copyFrom 6 = .ok (.getfield 9, 3) := by decide +kernel
theorem dX1_copyFrom_9 : decode cX1_copyFrom 9 = .ok (.iconst 0, 1) := by decide +kernel
theorem dX1_copyFrom_10 : decode cX1_copyFrom 10 = .ok (.sipush 150, 3) := by decide +kernel
theorem dX1_copyFrom_13 : decode cX1_copyFrom 13 = .ok (.invokestatic 31, 3) := by decide +kernel
theorem dX1_copyFrom_16 : decode cX1_copyFrom 16 = .ok (.aload_n 1, 1) := by decide +kernel
theorem dX1_copyFrom_17 : decode cX1_copyFrom 17 = .ok (.getfield 15, 3) := by decide +kernel
theorem dX1_copyFrom_20 : decode cX1_copyFrom 20 = .ok (.iconst 0, 1) := by decide +kernel
theorem dX1_copyFrom_21 : decode cX1_copyFrom 21 = .ok (.aload_n 0, 1) := by decide +kernel
theorem dX1_copyFrom_22 : decode cX1_copyFrom 22 = .ok (.getfield 15, 3) := by decide +kernel
theorem dX1_copyFrom_25 : decode cX1_copyFrom 25 = .ok (.iconst 0, 1) := by decide +kernel
theorem dX1_copyFrom_26 : decode cX1_copyFrom 26 = .ok (.sipush 240, 3) := by decide +kernel
theorem dX1_copyFrom_29 : decode cX1_copyFrom 29 = .ok (.invokestatic 31, 3) := by decide +kernel
theorem dX1_copyFrom_32 : decode cX1_copyFrom 32 = .ok (.aload_n 0, 1) := by decide +kernel
theorem dX1_copyFrom_33 : decode cX1_copyFrom 33 = .ok (.aload_n 1, 1) := by decide +kernel
theorem dX1_copyFrom_34 : decode cX1_copyFrom 34 = .ok (.getfield 21, 3) := by decide +kernel
theorem dX1_copyFrom_37 : decode cX1_copyFrom 37 = .ok (.putfield 21, 3) := by decide +kernel
theorem dX1_copyFrom_40 : decode cX1_copyFrom 40 = .ok (.return_, 1) := by decide +kernel
theorem dX1_length_0 : decode cX1_length 0 = .ok (.aload_n 0, 1) := by decide +kernel
theorem dX1_length_1 : decode cX1_length 1 = .ok (.getfield 21, 3) := by decide +kernel
theorem dX1_length_4 : decode cX1_length 4 = .ok (.ireturn, 1) := by decide +kernel
theorem dX1_append_0 : decode cX1_append 0 = .ok (.iload_n 1, 1) := by decide +kernel
theorem dX1_append_1 : decode cX1_append 1 = .ok (.invokestatic 37, 3) := by decide +kernel
theorem dX1_append_4 : decode cX1_append 4 = .ok (.ifCond .eq 30, 3) := by decide +kernel
theorem dX1_append_7 : decode cX1_append 7 = .ok (.aload_n 0, 1) := by decide +kernel
theorem dX1_append_8 : decode cX1_append 8 = .ok (.getfield 15, 3) := by decide +kernel
theorem dX1_append_11 : decode cX1_append 11 = .ok (.iload_n 1, 1) := by decide +kernel
theorem dX1_append_12 : decode cX1_append 12 = .ok (.iaload, 1) := by decide +kernel
theorem dX1_append_13 : decode cX1_append 13 = .ok (.iconst (-1), 1) := by decide +kernel
theorem dX1_append_14 : decode cX1_append 14 = .ok (.if_icmp .ne 20, 3) := by decide +kernel
theorem dX1_append_17 : decode cX1_append 17 = .ok (.aload_n 0, 1) := by decide +kernel
theorem dX1_append_18 : decode cX1_append 18 = .ok (.getfield 21, 3) := by decide +kernel
theorem dX1_append_21 : decode cX1_append 21 = .ok (.ifCond .lt 13, 3) := by decide +kernel
theorem dX1_append_24 : decode cX1_append 24 = .ok (.aload_n 0, 1) := by decide +kernel
theorem dX1_append_25 : decode cX1_append 25 = .ok (.getfield 21, 3) := by decide +kernel
theorem dX1_append_28 : decode cX1_append 28 = .ok (.sipush 150, 3) := by decide +kernel
theorem dX1_append_31 : decode cX1_append 31 = .ok (.if_icmp .lt 5, 3) := by decide +kernel
theorem dX1_append_34 : decode cX1_append 34 = .ok (.iconst 0, 1) := by decide +kernel
theorem dX1_append_35 : decode cX1_append 35 = .ok (.ireturn, 1) := by decide +kernel
theorem dX1_append_36 : decode cX1_append 36 = .ok (.aload_n 0, 1) := by decide +kernel
theorem dX1_append_37 : decode cX1_append 37 = .ok (.getfield 9, 3) := by decide +kernel
theorem dX1_append_40 : decode cX1_append 40 = .ok (.aload_n 0, 1) := by decide +kernel
theorem dX1_append_41 : decode cX1_append 41 = .ok (.getfield 21, 3) := by decide +kernel
theorem dX1_append_44 : decode cX1_append 44 = .ok (.iload_n 1, 1) := by decide +kernel
theorem dX1_append_45 : decode cX1_append 45 = .ok (.iastore, 1) := by decide +kernel
theorem dX1_append_46 : decode cX1_append 46 = .ok (.aload_n 0, 1) := by decide +kernel
theorem dX1_append_47 : decode cX1_append 47 = .ok (.getfield 15, 3) := by decide +kernel
theorem dX1_append_50 : decode cX1_append 50 = .ok (.iload_n 1, 1) := by decide +kernel
theorem dX1_append_51 : decode cX1_append 51 = .ok (.aload_n 0, 1) := by decide +kernel
theorem dX1_append_52 : decode cX1_append 52 = .ok (.getfield 21, 3) := by decide +kernel
theorem dX1_append_55 : decode cX1_append 55 = .ok (.iastore, 1) := by decide +kernel
theorem dX1_append_56 : decode cX1_append 56 = .ok (.aload_n 0, 1) := by decide +kernel
theorem dX1_append_57 : decode cX1_append 57 = .ok (.dup, 1) := by decide +kernel
theorem dX1_append_58 : decode cX1_append 58 = .ok (.getfield 21, 3) := by decide +kernel
theorem dX1_append_61 : decode cX1_append 61 = .ok (.iconst 1, 1) := by decide +kernel
theorem dX1_append_62 : decode cX1_append 62 = .ok (.iadd, 1) := by decide +kernel
theorem dX1_append_63 : decode cX1_append 63 = .ok (.putfield 21, 3) := by decide +kernel
theorem dX1_append_66 : decode cX1_append 66 = .ok (.iconst 1, 1) := by decide +kernel
theorem dX1_append_67 : decode cX1_append 67 = .ok (.ireturn, 1) := by decide +kernel
theorem dX1_cellOf_0 : decode cX1_cellOf 0 = .ok (.iload_n 1, 1) := by decide +kernel
theorem dX1_cellOf_1 : decode cX1_cellOf 1 = .ok (.ifCond .lt 27, 3) := by decide +kernel
theorem dX1_cellOf_4 : decode cX1_cellOf 4 = .ok (.iload_n 1, 1) := by decide +kernel
theorem dX1_cellOf_5 : decode cX1_cellOf 5 = .ok (.aload_n 0, 1) := by decide +kernel
theorem dX1_cellOf_6 : decode cX1_cellOf 6 = .ok (.getfield 21, 3) := by decide +kernel
theorem dX1_cellOf_9 : decode cX1_cellOf 9 = .ok (.if_icmp .ge 19, 3) := by decide +kernel
theorem dX1_cellOf_12 : decode cX1_cellOf 12 = .ok (.iload_n 1, 1) := by decide +kernel
theorem dX1_cellOf_13 : decode cX1_cellOf 13 = .ok (.sipush 150, 3) := by decide +kernel
theorem dX1_cellOf_16 : decode cX1_cellOf 16 = .ok (.if_icmp .ge 12, 3) := by decide +kernel
theorem dX1_cellOf_19 : decode cX1_cellOf 19 = .ok (.aload_n 0, 1) := by decide +kernel
theorem dX1_cellOf_20 : decode cX1_cellOf 20 = .ok (.getfield 9, 3) := by decide +kernel
theorem dX1_cellOf_23 : decode cX1_cellOf 23 = .ok (.iload_n 1, 1) := by decide +kernel
theorem dX1_cellOf_24 : decode cX1_cellOf 24 = .ok (.iaload, 1) := by decide +kernel
theorem dX1_cellOf_25 : decode cX1_cellOf 25 = .ok (.goto 4, 3) := by decide +kernel
theorem dX1_cellOf_28 : decode cX1_cellOf 28 = .ok (.iconst (-1), 1) := by decide +kernel
theorem dX1_cellOf_29 : decode cX1_cellOf 29 = .ok (.ireturn, 1) := by decide +kernel
theorem dX1_numberOf_0 : decode cX1_numberOf 0 = .ok (.iload_n 1, 1) := by decide +kernel
theorem dX1_numberOf_1 : decode cX1_numberOf 1 = .ok (.invokestatic 37, 3) := by decide +kernel
theorem dX1_numberOf_4 : decode cX1_numberOf 4 = .ok (.ifCond .eq 12, 3) := by decide +kernel
theorem dX1_numberOf_7 : decode cX1_numberOf 7 = .ok (.aload_n 0, 1) := by decide +kernel
theorem dX1_numberOf_8 : decode cX1_numberOf 8 = .ok (.getfield 15, 3) := by decide +kernel
theorem dX1_numberOf_11 : decode cX1_numberOf 11 = .ok (.iload_n 1, 1) := by decide +kernel
theorem dX1_numberOf_12 : decode cX1_numberOf 12 = .ok (.iaload, 1) := by decide +kernel
theorem dX1_numberOf_13 : decode cX1_numberOf 13 = .ok (.goto 4, 3) := by decide +kernel
theorem dX1_numberOf_16 : decode cX1_numberOf 16 = .ok (.iconst (-1), 1) := by decide +kernel
theorem dX1_numberOf_17 : decode cX1_numberOf 17 = .ok (.ireturn, 1) := by decide +kernel
theorem dX1_numberBeside_0 : decode cX1_numberBeside 0 = .ok (.aload_n 0, 1) := by decide +kernel
theorem dX1_numberBeside_1 : decode cX1_numberBeside 1 = .ok (.aload_n 0, 1) := by decide +kernel
theorem dX1_numberBeside_2 : decode cX1_numberBeside 2 = .ok (.iload_n 1, 1) := by decide +kernel
theorem dX1_numberBeside_3 : decode cX1_numberBeside 3 = .ok (.invokevirtual 41, 3) := by decide +kernel
theorem dX1_numberBeside_6 : decode cX1_numberBeside 6 = .ok (.iload_n 2, 1) := by decide +kernel
theorem dX1_numberBeside_7 : decode cX1_numberBeside 7 = .ok (.invokestatic 45, 3) := by decide +kernel
theorem dX1_numberBeside_10 : decode cX1_numberBeside 10 = .ok (.invokevirtual 49, 3) := by decide +kernel
theorem dX1_numberBeside_13 : decode cX1_numberBeside 13 = .ok (.ireturn, 1) := by decide +kernel
theorem dX1_nextBeside_0 : decode cX1_nextBeside 0 = .ok (.iconst (-1), 1) := by decide +kernel
theorem dX1_nextBeside_1 : decode cX1_nextBeside 1 = .ok (.istore_n 3, 1) := by decide +kernel
theorem dX1_nextBeside_2 : decode cX1_nextBeside 2 = .ok (.iconst 0, 1) := by decide +kernel
theorem dX1_nextBeside_3 : decode cX1_nextBeside 3 = .ok (.istore 4, 2) := by decide +kernel
theorem dX1_nextBeside_5 : decode cX1_nextBeside 5 = .ok (.iload 4, 2) := by decide +kernel
theorem dX1_nextBeside_7 : decode cX1_nextBeside 7 = .ok (.iconst 4, 1) := by decide +kernel
theorem dX1_nextBeside_8 : decode cX1_nextBeside 8 = .ok (.if_icmp .ge 38, 3) := by decide +kernel
theorem dX1_nextBeside_11 : decode cX1_nextBeside 11 = .ok (.aload_n 0, 1) := by decide +kernel
theorem dX1_nextBeside_12 : decode cX1_nextBeside 12 = .ok (.iload_n 1, 1) := by decide +kernel
theorem dX1_nextBeside_13 : decode cX1_nextBeside 13 = .ok (.iload 4, 2) := by decide +kernel
theorem dX1_nextBeside_15 : decode cX1_nextBeside 15 = .ok (.invokevirtual 52, 3) := by decide +kernel
theorem dX1_nextBeside_18 : decode cX1_nextBeside 18 = .ok (.istore 5, 2) := by decide +kernel
theorem dX1_nextBeside_20 : decode cX1_nextBeside 20 = .ok (.iload 5, 2) := by decide +kernel
theorem dX1_nextBeside_22 : decode cX1_nextBeside 22 = .ok (.iload_n 2, 1) := by decide +kernel
theorem dX1_nextBeside_23 : decode cX1_nextBeside 23 = .ok (.if_icmp .le 17, 3) := by decide +kernel
theorem dX1_nextBeside_26 : decode cX1_nextBeside 26 = .ok (.iload_n 3, 1) := by decide +kernel
theorem dX1_nextBeside_27 : decode cX1_nextBeside 27 = .ok (.iconst (-1), 1) := by decide +kernel
theorem dX1_nextBeside_28 : decode cX1_nextBeside 28 = .ok (.if_icmp .eq 9, 3) := by decide +kernel
theorem dX1_nextBeside_31 : decode cX1_nextBeside 31 = .ok (.iload 5, 2) := by decide +kernel
theorem dX1_nextBeside_33 : decode cX1_nextBeside 33 = .ok (.iload_n 3, 1) := by decide +kernel
theorem dX1_nextBeside_34 : decode cX1_nextBeside 34 = .ok (.if_icmp .ge 6, 3) := by decide +kernel
theorem dX1_nextBeside_37 : decode cX1_nextBeside 37 = .ok (.iload 5, 2) := by decide +kernel
theorem dX1_nextBeside_39 : decode cX1_nextBeside 39 = .ok (.istore_n 3, 1) := by decide +kernel
theorem dX1_nextBeside_40 : decode cX1_nextBeside 40 = .ok (.iinc 4 1, 3) := by decide +kernel
theorem dX1_nextBeside_43 : decode cX1_nextBeside 43 = .ok (.goto (-38), 3) := by decide +kernel
theorem dX1_nextBeside_46 : decode cX1_nextBeside 46 = .ok (.iload_n 3, 1) := by decide +kernel
theorem dX1_nextBeside_47 : decode cX1_nextBeside 47 = .ok (.ireturn, 1) := by decide +kernel
theorem dX1_wayFrom_0 : decode cX1_wayFrom 0 = .ok (.aload_n 0, 1) := by decide +kernel
theorem dX1_wayFrom_1 : decode cX1_wayFrom 1 = .ok (.iload_n 1, 1) := by decide +kernel
theorem dX1_wayFrom_2 : decode cX1_wayFrom 2 = .ok (.invokevirtual 41, 3) := by decide +kernel
theorem dX1_wayFrom_5 : decode cX1_wayFrom 5 = .ok (.istore_n 2, 1) := by decide +kernel
theorem dX1_wayFrom_6 : decode cX1_wayFrom 6 = .ok (.aload_n 0, 1) := by decide +kernel
theorem dX1_wayFrom_7 : decode cX1_wayFrom 7 = .ok (.iload_n 1, 1) := by decide +kernel
theorem dX1_wayFrom_8 : decode cX1_wayFrom 8 = .ok (.iconst 1, 1) := by decide +kernel
theorem dX1_wayFrom_9 : decode cX1_wayFrom 9 = .ok (.iadd, 1) := by decide +kernel
theorem dX1_wayFrom_10 : decode cX1_wayFrom 10 = .ok (.invokevirtual 41, 3) := by decide +kernel
theorem dX1_wayFrom_13 : decode cX1_wayFrom 13 = .ok (.istore_n 3, 1) := by decide +kernel
theorem dX1_wayFrom_14 : decode cX1_wayFrom 14 = .ok (.iload_n 2, 1) := by decide +kernel
theorem dX1_wayFrom_15 : decode cX1_wayFrom 15 = .ok (.iconst (-1), 1) := by decide +kernel
theorem dX1_wayFrom_16 : decode cX1_wayFrom 16 = .ok (.if_icmp .eq 8, 3) := by decide +kernel
theorem dX1_wayFrom_19 : decode cX1_wayFrom 19 = .ok (.iload_n 3, 1) := by decide +kernel
theorem dX1_wayFrom_20 : decode cX1_wayFrom 20 = .ok (.iconst (-1), 1) := by decide +kernel
theorem dX1_wayFrom_21 : decode cX1_wayFrom 21 = .ok (.if_icmp .ne 5, 3) := by decide +kernel
theorem dX1_wayFrom_24 : decode cX1_wayFrom 24 = .ok (.iconst (-1), 1) := by decide +kernel
theorem dX1_wayFrom_25 : decode cX1_wayFrom 25 = .ok (.ireturn, 1) := by decide +kernel
theorem dX1_wayFrom_26 : decode cX1_wayFrom 26 = .ok (.iload_n 3, 1) := by decide +kernel
theorem dX1_wayFrom_27 : decode cX1_wayFrom 27 = .ok (.iload_n 2, 1) := by decide +kernel
theorem dX1_wayFrom_28 : decode cX1_wayFrom 28 = .ok (.isub, 1) := by decide +kernel
theorem dX1_wayFrom_29 : decode cX1_wayFrom 29 = .ok (.lookupswitch 41 #[(-1, 39), (1, 35), (20, 37)], 35) := by decide +kernel
theorem dX1_wayFrom_64 : decode cX1_wayFrom 64 = .ok (.iconst 0, 1) := by decide +kernel
theorem dX1_wayFrom_65 : decode cX1_wayFrom 65 = .ok (.ireturn, 1) := by decide +kernel
theorem dX1_wayFrom_66 : decode cX1_wayFrom 66 = .ok (.iconst 1, 1) := by decide +kernel
theorem dX1_wayFrom_67 : decode cX1_wayFrom 67 = .ok (.ireturn, 1) := by decide +kernel
theorem dX1_wayFrom_68 : decode cX1_wayFrom 68 = .ok (.iconst 2, 1) := by decide +kernel
theorem dX1_wayFrom_69 : decode cX1_wayFrom 69 = .ok (.ireturn, 1) := by decide +kernel
theorem dX1_wayFrom_70 : decode cX1_wayFrom 70 = .ok (.iconst 3, 1) := by decide +kernel
theorem dX1_wayFrom_71 : decode cX1_wayFrom 71 = .ok (.ireturn, 1) := by decide +kernel
theorem dX1_winding_0 : decode cX1_winding 0 = .ok (.aload_n 0, 1) := by decide +kernel
theorem dX1_winding_1 : decode cX1_winding 1 = .ok (.iconst 0, 1) := by decide +kernel
theorem dX1_winding_2 : decode cX1_winding 2 = .ok (.invokevirtual 41, 3) := by decide +kernel
theorem dX1_winding_5 : decode cX1_winding 5 = .ok (.istore_n 1, 1) := by decide +kernel
theorem dX1_winding_6 : decode cX1_winding 6 = .ok (.aload_n 0, 1) := by decide +kernel
theorem dX1_winding_7 : decode cX1_winding 7 = .ok (.aload_n 0, 1) := by decide +kernel
theorem dX1_winding_8 : decode cX1_winding 8 = .ok (.getfield 21, 3) := by decide +kernel
theorem dX1_winding_11 : decode cX1_winding 11 = .ok (.iconst 1, 1) := by decide +kernel
theorem dX1_winding_12 : decode cX1_winding 12 = .ok (.isub, 1) := by decide +kernel
theorem dX1_winding_13 : decode cX1_winding 13 = .ok (.invokevirtual 41, 3) := by decide +kernel
theorem dX1_winding_16 : decode cX1_winding 16 = .ok (.istore_n 2, 1) := by decide +kernel
theorem dX1_winding_17 : decode cX1_winding 17 = .ok (.iload_n 2, 1) := by decide +kernel
theorem dX1_winding_18 : decode cX1_winding 18 = .ok (.bipush 20, 2) := by decide +kernel
theorem dX1_winding_20 : decode cX1_winding 20 = .ok (.irem, 1) := by decide +kernel
theorem dX1_winding_21 : decode cX1_winding 21 = .ok (.iload_n 1, 1) := by decide +kernel
theorem dX1_winding_22 : decode cX1_winding 22 = .ok (.bipush 20, 2) := by decide +kernel
theorem dX1_winding_24 : decode cX1_winding 24 = .ok (.irem, 1) := by decide +kernel
theorem dX1_winding_25 : decode cX1_winding 25 = .ok (.isub, 1) := by decide +kernel
theorem dX1_winding_26 : decode cX1_winding 26 = .ok (.invokestatic 55, 3) := by decide +kernel
theorem dX1_winding_29 : decode cX1_winding 29 = .ok (.iload_n 2, 1) := by decide +kernel
theorem dX1_winding_30 : decode cX1_winding 30 = .ok (.bipush 20, 2) := by decide +kernel
theorem dX1_winding_32 : decode cX1_winding 32 = .ok (.idiv, 1) := by decide +kernel
theorem dX1_winding_33 : decode cX1_winding 33 = .ok (.iload_n 1, 1) := by decide +kernel
theorem dX1_winding_34 : decode cX1_winding 34 = .ok (.bipush 20, 2) := by decide +kernel
theorem dX1_winding_36 : decode cX1_winding 36 = .ok (.idiv, 1) := by decide +kernel
theorem dX1_winding_37 : decode cX1_winding 37 = .ok (.isub, 1) := by decide +kernel
theorem dX1_winding_38 : decode cX1_winding 38 = .ok (.invokestatic 55, 3) := by decide +kernel
theorem dX1_winding_41 : decode cX1_winding 41 = .ok (.iadd, 1) := by decide +kernel
theorem dX1_winding_42 : decode cX1_winding 42 = .ok (.istore_n 3, 1) := by decide +kernel
theorem dX1_winding_43 : decode cX1_winding 43 = .ok (.iload_n 3, 1) := by decide +kernel
theorem dX1_winding_44 : decode cX1_winding 44 = .ok (.ifCond .ne 8, 3) := by decide +kernel
theorem dX1_winding_47 : decode cX1_winding 47 = .ok (.bipush (-6), 2) := by decide +kernel
theorem dX1_winding_49 : decode cX1_winding 49 = .ok (.goto 15, 3) := by decide +kernel
theorem dX1_winding_52 : decode cX1_winding 52 = .ok (.sipush 1000, 3) := by decide +kernel
theorem dX1_winding_55 : decode cX1_winding 55 = .ok (.aload_n 0, 1) := by decide +kernel
theorem dX1_winding_56 : decode cX1_winding 56 = .ok (.getfield 21, 3) := by decide +kernel
theorem dX1_winding_59 : decode cX1_winding 59 = .ok (.iconst 1, 1) := by decide +kernel
theorem dX1_winding_60 : decode cX1_winding 60 = .ok (.isub, 1) := by decide +kernel
theorem dX1_winding_61 : decode cX1_winding 61 = .ok (.imul, 1) := by decide +kernel
theorem dX1_winding_62 : decode cX1_winding 62 = .ok (.iload_n 3, 1) := by decide +kernel
theorem dX1_winding_63 : decode cX1_winding 63 = .ok (.idiv, 1) := by decide +kernel
theorem dX1_winding_64 : decode cX1_winding 64 = .ok (.ireturn, 1) := by decide +kernel
theorem dX1_bulge_0 : decode cX1_bulge 0 = .ok (.iload_n 1, 1) := by decide +kernel
theorem dX1_bulge_1 : decode cX1_bulge 1 = .ok (.ifCond .lt 28, 3) := by decide +kernel
theorem dX1_bulge_4 : decode cX1_bulge 4 = .ok (.iload_n 2, 1) := by decide +kernel
theorem dX1_bulge_5 : decode cX1_bulge 5 = .ok (.iload_n 1, 1) := by decide +kernel
theorem dX1_bulge_6 : decode cX1_bulge 6 = .ok (.if_icmp .le 23, 3) := by decide +kernel
theorem dX1_bulge_9 : decode cX1_bulge 9 = .ok (.iload_n 2, 1) := by decide +kernel
theorem dX1_bulge_10 : decode cX1_bulge 10 = .ok (.aload_n 0, 1) := by decide +kernel
theorem dX1_bulge_11 : decode cX1_bulge 11 = .ok (.getfield 21, 3) := by decide +kernel
theorem dX1_bulge_14 : decode cX1_bulge 14 = .ok (.if_icmp .ge 15, 3) := by decide +kernel
theorem dX1_bulge_17 : decode cX1_bulge 17 = .ok (.aload_n 0, 1) := by decide +kernel
theorem dX1_bulge_18 : decode cX1_bulge 18 = .ok (.getfield 21, 3) := by decide +kernel
theorem dX1_bulge_21 : decode cX1_bulge 21 = .ok (.iconst 2, 1) := by decide +kernel
theorem dX1_bulge_22 : decode cX1_bulge 22 = .ok (.iadd, 1) := by decide +kernel
theorem dX1_bulge_23 : decode cX1_bulge 23 = .ok (.sipush 150, 3) := by decide +kernel
theorem dX1_bulge_26 : decode cX1_bulge 26 = .ok (.if_icmp .le 4, 3) := by decide +kernel
theorem dX1_bulge_29 : decode cX1_bulge 29 = .ok (.return_, 1) := by decide +kernel
theorem dX1_bulge_30 : decode cX1_bulge 30 = .ok (.aload_n 0, 1) := by decide +kernel
theorem dX1_bulge_31 : decode cX1_bulge 31 = .ok (.iload_n 1, 1) := by decide +kernel
theorem dX1_bulge_32 : decode cX1_bulge 32 = .ok (.iload_n 2, 1) := by decide +kernel
theorem dX1_bulge_33 : decode cX1_bulge 33 = .ok (.invokevirtual 60, 3) := by decide +kernel
theorem dX1_bulge_36 : decode cX1_bulge 36 = .ok (.aload_n 0, 1) := by decide +kernel
theorem dX1_bulge_37 : decode cX1_bulge 37 = .ok (.getfield 21, 3) := by decide +kernel
theorem dX1_bulge_40 : decode cX1_bulge 40 = .ok (.iconst 1, 1) := by decide +kernel
theorem dX1_bulge_41 : decode cX1_bulge 41 = .ok (.isub, 1) := by decide +kernel
theorem dX1_bulge_42 : decode cX1_bulge 42 = .ok (.istore 4, 2) := by decide +kernel
theorem dX1_bulge_44 : decode cX1_bulge 44 = .ok (.iload 4, 2) := by decide +kernel
theorem dX1_bulge_46 : decode cX1_bulge 46 = .ok (.iload_n 2, 1) := by decide +kernel
theorem dX1_bulge_47 : decode cX1_bulge 47 = .ok (.if_icmp .lt 25, 3) := by decide +kernel
theorem dX1_bulge_50 : decode cX1_bulge 50 = .ok (.aload_n 0, 1) := by decide +kernel
theorem dX1_bulge_51 : decode cX1_bulge 51 = .ok (.getfield 9, 3) := by decide +kernel
theorem dX1_bulge_54 : decode cX1_bulge 54 = .ok (.iload 4, 2) := by decide +kernel
theorem dX1_bulge_56 : decode cX1_bulge 56 = .ok (.iconst 2, 1) := by decide +kernel
theorem dX1_bulge_57 : decode cX1_bulge 57 = .ok (.iadd, 1) := by decide +kernel
theorem dX1_bulge_58 : decode cX1_bulge 58 = .ok (.aload_n 0, 1) := by decide +kernel
theorem dX1_bulge_59 : decode cX1_bulge 59 = .ok (.getfield 9, 3) := by decide +kernel
theorem dX1_bulge_62 : decode cX1_bulge 62 = .ok (.iload 4, 2) := by decide +kernel
theorem dX1_bulge_64 : decode cX1_bulge 64 = .ok (.iaload, 1) := by decide +kernel
theorem dX1_bulge_65 : decode cX1_bulge 65 = .ok (.iastore, 1) := by decide +kernel
theorem dX1_bulge_66 : decode cX1_bulge 66 = .ok (.iinc 4 (-1), 3) := by decide +kernel
theorem dX1_bulge_69 : decode cX1_bulge 69 = .ok (.goto (-25), 3) := by decide +kernel
theorem dX1_bulge_72 : decode cX1_bulge 72 = .ok (.iload_n 2, 1) := by decide +kernel
theorem dX1_bulge_73 : decode cX1_bulge 73 = .ok (.istore 4, 2) := by decide +kernel
theorem dX1_bulge_75 : decode cX1_bulge 75 = .ok (.iload 4, 2) := by decide +kernel
theorem dX1_bulge_77 : decode cX1_bulge 77 = .ok (.iload_n 1, 1) := by decide +kernel
theorem dX1_bulge_78 : decode cX1_bulge 78 = .ok (.if_icmp .lt 29, 3) := by decide +kernel
theorem dX1_bulge_81 : decode cX1_bulge 81 = .ok (.aload_n 0, 1) := by decide +kernel
theorem dX1_bulge_82 : decode cX1_bulge 82 = .ok (.getfield 9, 3) := by decide +kernel
theorem dX1_bulge_85 : decode cX1_bulge 85 = .ok (.iload 4, 2) := by decide +kernel
theorem dX1_bulge_87 : decode cX1_bulge 87 = .ok (.iconst 1, 1) := by decide +kernel
theorem dX1_bulge_88 : decode cX1_bulge 88 = .ok (.iadd, 1) := by decide +kernel
theorem dX1_bulge_89 : decode cX1_bulge 89 = .ok (.aload_n 0, 1) := by decide +kernel
theorem dX1_bulge_90 : decode cX1_bulge 90 = .ok (.getfield 9, 3) := by decide +kernel
theorem dX1_bulge_93 : decode cX1_bulge 93 = .ok (.iload 4, 2) := by decide +kernel
theorem dX1_bulge_95 : decode cX1_bulge 95 = .ok (.iaload, 1) := by decide +kernel
theorem dX1_bulge_96 : decode cX1_bulge 96 = .ok (.iload_n 3, 1) := by decide +kernel
theorem dX1_bulge_97 : decode cX1_bulge 97 = .ok (.invokestatic 45, 3) := by decide +kernel
theorem dX1_bulge_100 : decode cX1_bulge 100 = .ok (.iastore, 1) := by decide +kernel
theorem dX1_bulge_101 : decode cX1_bulge 101 = .ok (.iinc 4 (-1), 3) := by decide +kernel
theorem dX1_bulge_104 : decode cX1_bulge 104 = .ok (.goto (-29), 3) := by decide +kernel
theorem dX1_bulge_107 : decode cX1_bulge 107 = .ok (.aload_n 0, 1) := by decide +kernel
theorem dX1_bulge_108 : decode cX1_bulge 108 = .ok (.dup, 1) := by decide +kernel
theorem dX1_bulge_109 : decode cX1_bulge 109 = .ok (.getfield 21, 3) := by decide +kernel
theorem dX1_bulge_112 : decode cX1_bulge 112 = .ok (.iconst 2, 1) := by decide +kernel
theorem dX1_bulge_113 : decode cX1_bulge 113 = .ok (.iadd, 1) := by decide +kernel
theorem dX1_bulge_114 : decode cX1_bulge 114 = .ok (.putfield 21, 3) := by decide +kernel
theorem dX1_bulge_117 : decode cX1_bulge 117 = .ok (.aload_n 0, 1) := by decide +kernel
theorem dX1_bulge_118 : decode cX1_bulge 118 = .ok (.iload_n 1, 1) := by decide +kernel
theorem dX1_bulge_119 : decode cX1_bulge 119 = .ok (.invokevirtual 64, 3) := by decide +kernel
theorem dX1_bulge_122 : decode cX1_bulge 122 = .ok (.return_, 1) := by decide +kernel
theorem dX1_shorten_0 : decode cX1_shorten 0 = .ok (.iload_n 1, 1) := by decide +kernel
theorem dX1_shorten_1 : decode cX1_shorten 1 = .ok (.ifCond .lt 26, 3) := by decide +kernel
theorem dX1_shorten_4 : decode cX1_shorten 4 = .ok (.iload_n 2, 1) := by decide +kernel
theorem dX1_shorten_5 : decode cX1_shorten 5 = .ok (.iload_n 1, 1) := by decide +kernel
theorem dX1_shorten_6 : decode cX1_shorten 6 = .ok (.if_icmp .le 21, 3) := by decide +kernel
theorem dX1_shorten_9 : decode cX1_shorten 9 = .ok (.iload_n 2, 1) := by decide +kernel
theorem dX1_shorten_10 : decode cX1_shorten 10 = .ok (.aload_n 0, 1) := by decide +kernel
theorem dX1_shorten_11 : decode cX1_shorten 11 = .ok (.getfield 21, 3) := by decide +kernel
theorem dX1_shorten_14 : decode cX1_shorten 14 = .ok (.if_icmp .ge 13, 3) := by decide +kernel
theorem dX1_shorten_17 : decode cX1_shorten 17 = .ok (.aload_n 0, 1) := by decide +kernel
theorem dX1_shorten_18 : decode cX1_shorten 18 = .ok (.getfield 21, 3) := by decide +kernel
theorem dX1_shorten_21 : decode cX1_shorten 21 = .ok (.sipush 150, 3) := by decide +kernel
theorem dX1_shorten_24 : decode cX1_shorten 24 = .ok (.if_icmp .le 4, 3) := by decide +kernel
theorem dX1_shorten_27 : decode cX1_shorten 27 = .ok (.return_, 1) := by decide +kernel
theorem dX1_shorten_28 : decode cX1_shorten 28 = .ok (.aload_n 0, 1) := by decide +kernel
theorem dX1_shorten_29 : decode cX1_shorten 29 = .ok (.iload_n 1, 1) := by decide +kernel
theorem dX1_shorten_30 : decode cX1_shorten 30 = .ok (.iload_n 2, 1) := by decide +kernel
theorem dX1_shorten_31 : decode cX1_shorten 31 = .ok (.invokevirtual 60, 3) := by decide +kernel
theorem dX1_shorten_34 : decode cX1_shorten 34 = .ok (.iload_n 2, 1) := by decide +kernel
theorem dX1_shorten_35 : decode cX1_shorten 35 = .ok (.iload_n 1, 1) := by decide +kernel
theorem dX1_shorten_36 : decode cX1_shorten 36 = .ok (.isub, 1) := by decide +kernel
theorem dX1_shorten_37 : decode cX1_shorten 37 = .ok (.iconst 1, 1) := by decide +kernel
theorem dX1_shorten_38 : decode cX1_shorten 38 = .ok (.isub, 1) := by decide +kernel
theorem dX1_shorten_39 : decode cX1_shorten 39 = .ok (.istore_n 3, 1) := by decide +kernel
theorem dX1_shorten_40 : decode cX1_shorten 40 = .ok (.iload_n 2, 1) := by decide +kernel
theorem dX1_shorten_41 : decode cX1_shorten 41 = .ok (.istore 4, 2) := by decide +kernel
theorem dX1_shorten_43 : decode cX1_shorten 43 = .ok (.iload 4, 2) := by decide +kernel
theorem dX1_shorten_45 : decode cX1_shorten 45 = .ok (.aload_n 0, 1) := by decide +kernel
theorem dX1_shorten_46 : decode cX1_shorten 46 = .ok (.getfield 21, 3) := by decide +kernel
theorem dX1_shorten_49 : decode cX1_shorten 49 = .ok (.if_icmp .ge 25, 3) := by decide +kernel
theorem dX1_shorten_52 : decode cX1_shorten 52 = .ok (.aload_n 0, 1) := by decide +kernel
theorem dX1_shorten_53 : decode cX1_shorten 53 = .ok (.getfield 9, 3) := by decide +kernel
theorem dX1_shorten_56 : decode cX1_shorten 56 = .ok (.iload 4, 2) := by decide +kernel
theorem dX1_shorten_58 : decode cX1_shorten 58 = .ok (.iload_n 3, 1) := by decide +kernel
theorem dX1_shorten_59 : decode cX1_shorten 59 = .ok (.isub, 1) := by decide +kernel
theorem dX1_shorten_60 : decode cX1_shorten 60 = .ok (.aload_n 0, 1) := by decide +kernel
theorem dX1_shorten_61 : decode cX1_shorten 61 = .ok (.getfield 9, 3) := by decide +kernel
theorem dX1_shorten_64 : decode cX1_shorten 64 = .ok (.iload 4, 2) := by decide +kernel
theorem dX1_shorten_66 : decode cX1_shorten 66 = .ok (.iaload, 1) := by decide +kernel
theorem dX1_shorten_67 : decode cX1_shorten 67 = .ok (.iastore, 1) := by decide +kernel
theorem dX1_shorten_68 : decode cX1_shorten 68 = .ok (.iinc 4 1, 3) := by decide +kernel
theorem dX1_shorten_71 : decode cX1_shorten 71 = .ok (.goto (-28), 3) := by decide +kernel
theorem dX1_shorten_74 : decode cX1_shorten 74 = .ok (.aload_n 0, 1) := by decide +kernel
theorem dX1_shorten_75 : decode cX1_shorten 75 = .ok (.dup, 1) := by decide +kernel
theorem dX1_shorten_76 : decode cX1_shorten 76 = .ok (.getfield 21, 3) := by decide +kernel
theorem dX1_shorten_79 : decode cX1_shorten 79 = .ok (.iload_n 3, 1) := by decide +kernel
theorem dX1_shorten_80 : decode cX1_shorten 80 = .ok (.isub, 1) := by decide +kernel
theorem dX1_shorten_81 : decode cX1_shorten 81 = .ok (.putfield 21, 3) := by decide +kernel
theorem dX1_shorten_84 : decode cX1_shorten 84 = .ok (.aload_n 0, 1) := by decide +kernel
theorem dX1_shorten_85 : decode cX1_shorten 85 = .ok (.iload_n 1, 1) := by decide +kernel
theorem dX1_shorten_86 : decode cX1_shorten 86 = .ok (.invokevirtual 64, 3) := by decide +kernel
theorem dX1_shorten_89 : decode cX1_shorten 89 = .ok (.return_, 1) := by decide +kernel
theorem dX1_leaveBetween_0 : decode cX1_leaveBetween 0 = .ok (.iload_n 1, 1) := by decide +kernel
theorem dX1_leaveBetween_1 : decode cX1_leaveBetween 1 = .ok (.iconst 1, 1) := by decide +kernel
theorem dX1_leaveBetween_2 : decode cX1_leaveBetween 2 = .ok (.iadd, 1) := by decide +kernel
theorem dX1_leaveBetween_3 : decode cX1_leaveBetween 3 = .ok (.istore_n 3, 1) := by decide +kernel
theorem dX1_leaveBetween_4 : decode cX1_leaveBetween 4 = .ok (.iload_n 3, 1) := by decide +kernel
theorem dX1_leaveBetween_5 : decode cX1_leaveBetween 5 = .ok (.iload_n 2, 1) := by decide +kernel
theorem dX1_leaveBetween_6 : decode cX1_leaveBetween 6 = .ok (.if_icmp .ge 32, 3) := by decide +kernel
theorem dX1_leaveBetween_9 : decode cX1_leaveBetween 9 = .ok (.aload_n 0, 1) := by decide +kernel
theorem dX1_leaveBetween_10 : decode cX1_leaveBetween 10 = .ok (.iload_n 3, 1) := by decide +kernel
theorem dX1_leaveBetween_11 : decode cX1_leaveBetween 11 = .ok (.invokevirtual 41, 3) := by decide +kernel
theorem dX1_leaveBetween_14 : decode cX1_leaveBetween 14 = .ok (.istore 4, 2) := by decide +kernel
theorem dX1_leaveBetween_16 : decode cX1_leaveBetween 16 = .ok (.iload 4, 2) := by decide +kernel
theorem dX1_leaveBetween_18 : decode cX1_leaveBetween 18 = .ok (.invokestatic 37, 3) := by decide +kernel
theorem dX1_leaveBetween_21 : decode cX1_leaveBetween 21 = .ok (.ifCond .eq 11, 3) := by decide +kernel
theorem dX1_leaveBetween_24 : decode cX1_leaveBetween 24 = .ok (.aload_n 0, 1) := by decide +kernel
theorem dX1_leaveBetween_25 : decode cX1_leaveBetween 25 = .ok (.getfield 15, 3) := by decide +kernel
theorem dX1_leaveBetween_28 : decode cX1_leaveBetween 28 = .ok (.iload 4, 2) := by decide +kernel
theorem dX1_leaveBetween_30 : decode cX1_leaveBetween 30 = .ok (.iconst (-1), 1) := by decide +kernel
theorem dX1_leaveBetween_31 : decode cX1_leaveBetween 31 = .ok (.iastore, 1) := by decide +kernel
theorem dX1_leaveBetween_32 : decode cX1_leaveBetween 32 = .ok (.iinc 3 1, 3) := by decide +kernel
theorem dX1_leaveBetween_35 : decode cX1_leaveBetween 35 = .ok (.goto (-31), 3) := by decide +kernel
theorem dX1_leaveBetween_38 : decode cX1_leaveBetween 38 = .ok (.return_, 1) := by decide +kernel
theorem dX1_numberAgain_0 : decode cX1_numberAgain 0 = .ok (.iload_n 1, 1) := by decide +kernel
theorem dX1_numberAgain_1 : decode cX1_numberAgain 1 = .ok (.istore_n 2, 1) := by decide +kernel
theorem dX1_numberAgain_2 : decode cX1_numberAgain 2 = .ok (.iload_n 2, 1) := by decide +kernel
theorem dX1_numberAgain_3 : decode cX1_numberAgain 3 = .ok (.aload_n 0, 1) := by decide +kernel
theorem dX1_numberAgain_4 : decode cX1_numberAgain 4 = .ok (.getfield 21, 3) := by decide +kernel
theorem dX1_numberAgain_7 : decode cX1_numberAgain 7 = .ok (.if_icmp .ge 29, 3) := by decide +kernel
theorem dX1_numberAgain_10 : decode cX1_numberAgain 10 = .ok (.aload_n 0, 1) := by decide +kernel
theorem dX1_numberAgain_11 : decode cX1_numberAgain 11 = .ok (.iload_n 2, 1) := by decide +kernel
theorem dX1_numberAgain_12 : decode cX1_numberAgain 12 = .ok (.invokevirtual 41, 3) := by decide +kernel
theorem dX1_numberAgain_15 : decode cX1_numberAgain 15 = .ok (.istore_n 3, 1) := by decide +kernel
theorem dX1_numberAgain_16 : decode cX1_numberAgain 16 = .ok (.iload_n 3, 1) := by decide +kernel
theorem dX1_numberAgain_17 : decode cX1_numberAgain 17 = .ok (.invokestatic 37, 3) := by decide +kernel
theorem dX1_numberAgain_20 : decode cX1_numberAgain 20 = .ok (.ifCond .eq 10, 3) := by decide +kernel
theorem dX1_numberAgain_23 : decode cX1_numberAgain 23 = .ok (.aload_n 0, 1) := by decide +kernel
theorem dX1_numberAgain_24 : decode cX1_numberAgain 24 = .ok (.getfield 15, 3) := by decide +kernel
theorem dX1_numberAgain_27 : decode cX1_numberAgain 27 = .ok (.iload_n 3, 1) := by decide +kernel
theorem dX1_numberAgain_28 : decode cX1_numberAgain 28 = .ok (.iload_n 2, 1) := by decide +kernel
theorem dX1_numberAgain_29 : decode cX1_numberAgain 29 = .ok (.iastore, 1) := by decide +kernel
theorem dX1_numberAgain_30 : decode cX1_numberAgain 30 = .ok (.iinc 2 1, 3) := by decide +kernel
theorem dX1_numberAgain_33 : decode cX1_numberAgain 33 = .ok (.goto (-31), 3) := by decide +kernel
theorem dX1_numberAgain_36 : decode cX1_numberAgain 36 = .ok (.return_, 1) := by decide +kernel
theorem dX2_init_0 : decode cX2_init 0 = .ok (.aload_n 0, 1) := by decide +kernel
theorem dX2_init_1 : decode cX2_init 1 = .ok (.invokespecial 3, 3) := by decide +kernel
theorem dX2_init_4 : decode cX2_init 4 = .ok (.aload_n 0, 1) := by decide +kernel
theorem dX2_init_5 : decode cX2_init 5 = .ok (.bipush 6, 2) := by decide +kernel
theorem dX2_init_7 : decode cX2_init 7 = .ok (.anewarray 9, 3) := by decide +kernel
theorem dX2_init_10 : decode cX2_init 10 = .ok (.putfield 11, 3) := by decide +kernel
theorem dX2_init_13 : decode cX2_init 13 = .ok (.iconst 0, 1) := by decide +kernel
theorem dX2_init_14 : decode cX2_init 14 = .ok (.istore_n 1, 1) := by decide +kernel
theorem dX2_init_15 : decode cX2_init 15 = .ok (.iload_n 1, 1) := by decide +kernel
theorem dX2_init_16 : decode cX2_init 16 = .ok (.aload_n 0, 1) := by decide +kernel
theorem dX2_init_17 : decode cX2_init 17 = .ok (.getfield 11, 3) := by decide +kernel
theorem dX2_init_20 : decode cX2_init 20 = .ok (.arraylength, 1) := by decide +kernel
theorem dX2_init_21 : decode cX2_init 21 = .ok (.if_icmp .ge 22, 3) := by decide +kernel
theorem dX2_init_24 : decode cX2_init 24 = .ok (.aload_n 0, 1) := by decide +kernel
theorem dX2_init_25 : decode cX2_init 25 = .ok (.getfield 11, 3) := by decide +kernel
theorem dX2_init_28 : decode cX2_init 28 = .ok (.iload_n 1, 1) := by decide +kernel
theorem dX2_init_29 : decode cX2_init 29 = .ok (.new 9, 3) := by decide +kernel
theorem dX2_init_32 : decode cX2_init 32 = .ok (.dup, 1) := by decide +kernel
theorem dX2_init_33 : decode cX2_init 33 = .ok (.invokespecial 17, 3) := by decide +kernel
theorem dX2_init_36 : decode cX2_init 36 = .ok (.aastore, 1) := by decide +kernel
theorem dX2_init_37 : decode cX2_init 37 = .ok (.iinc 1 1, 3) := by decide +kernel
theorem dX2_init_40 : decode cX2_init 40 = .ok (.goto (-25), 3) := by decide +kernel
theorem dX2_init_43 : decode cX2_init 43 = .ok (.return_, 1) := by decide +kernel
theorem dX2_length_0 : decode cX2_length 0 = .ok (.aload_n 0, 1) := by decide +kernel
theorem dX2_length_1 : decode cX2_length 1 = .ok (.getfield 18, 3) := by decide +kernel
theorem dX2_length_4 : decode cX2_length 4 = .ok (.ireturn, 1) := by decide +kernel
theorem dX2_remember_0 : decode cX2_remember 0 = .ok (.aload_n 0, 1) := by decide +kernel
theorem dX2_remember_1 : decode cX2_remember 1 = .ok (.getfield 22, 3) := by decide +kernel
theorem dX2_remember_4 : decode cX2_remember 4 = .ok (.aload_n 0, 1) := by decide +kernel
theorem dX2_remember_5 : decode cX2_remember 5 = .ok (.getfield 18, 3) := by decide +kernel
theorem dX2_remember_8 : decode cX2_remember 8 = .ok (.iadd, 1) := by decide +kernel
theorem dX2_remember_9 : decode cX2_remember 9 = .ok (.bipush 6, 2) := by decide +kernel
theorem dX2_remember_11 : decode cX2_remember 11 = .ok (.irem, 1) := by decide +kernel
theorem dX2_remember_12 : decode cX2_remember 12 = .ok (.istore_n 2, 1) := by decide +kernel
theorem dX2_remember_13 : decode cX2_remember 13 = .ok (.aload_n 0, 1) := by decide +kernel
theorem dX2_remember_14 : decode cX2_remember 14 = .ok (.getfield 18, 3) := by decide +kernel
theorem dX2_remember_17 : decode cX2_remember 17 = .ok (.bipush 6, 2) := by decide +kernel
theorem dX2_remember_19 : decode cX2_remember 19 = .ok (.if_icmp .ne 19, 3) := by decide +kernel
theorem dX2_remember_22 : decode cX2_remember 22 = .ok (.aload_n 0, 1) := by decide +kernel
theorem dX2_remember_23 : decode cX2_remember 23 = .ok (.aload_n 0, 1) := by decide +kernel
theorem dX2_remember_24 : decode cX2_remember 24 = .ok (.getfield 22, 3) := by decide +kernel
theorem dX2_remember_27 : decode cX2_remember 27 = .ok (.iconst 1, 1) := by decide +kernel
theorem dX2_remember_28 : decode cX2_remember 28 = .ok (.iadd, 1) := by decide +kernel
theorem dX2_remember_29 : decode cX2_remember 29 = .ok (.bipush 6, 2) := by decide +kernel
theorem dX2_remember_31 : decode cX2_remember 31 = .ok (.irem, 1) := by decide +kernel
theorem dX2_remember_32 : decode cX2_remember 32 = .ok (.putfield 22, 3) := by decide +kernel
theorem dX2_remember_35 : decode cX2_remember 35 = .ok (.goto 13, 3) := by decide +kernel
theorem dX2_remember_38 : decode cX2_remember 38 = .ok (.aload_n 0, 1) := by decide +kernel
theorem dX2_remember_39 : decode cX2_remember 39 = .ok (.dup, 1) := by decide +kernel
theorem dX2_remember_40 : decode cX2_remember 40 = .ok (.getfield 18, 3) := by decide +kernel
theorem dX2_remember_43 : decode cX2_remember 43 = .ok (.iconst 1, 1) := by decide +kernel
theorem dX2_remember_44 : decode cX2_remember 44 = .ok (.iadd, 1) := by decide +kernel
theorem dX2_remember_45 : decode cX2_remember 45 = .ok (.putfield 18, 3) := by decide +kernel
theorem dX2_remember_48 : decode cX2_remember 48 = .ok (.iload_n 2, 1) := by decide +kernel
theorem dX2_remember_49 : decode cX2_remember 49 = .ok (.ifCond .lt 31, 3) := by decide +kernel
theorem dX2_remember_52 : decode cX2_remember 52 = .ok (.iload_n 2, 1) := by decide +kernel
theorem dX2_remember_53 : decode cX2_remember 53 = .ok (.aload_n 0, 1) := by decide +kernel
theorem dX2_remember_54 : decode cX2_remember 54 = .ok (.getfield 11, 3) := by decide +kernel
theorem dX2_remember_57 : decode cX2_remember 57 = .ok (.arraylength, 1) := by decide +kernel
theorem dX2_remember_58 : decode cX2_remember 58 = .ok (.if_icmp .ge 22, 3) := by decide +kernel
theorem dX2_remember_61 : decode cX2_remember 61 = .ok (.aload_n 0, 1) := by decide +kernel
theorem dX2_remember_62 : decode cX2_remember 62 = .ok (.getfield 11, 3) := by decide +kernel
theorem dX2_remember_65 : decode cX2_remember 65 = .ok (.iload_n 2, 1) := by decide +kernel
theorem dX2_remember_66 : decode cX2_remember 66 = .ok (.aaload, 1) := by decide +kernel
theorem dX2_remember_67 : decode cX2_remember 67 = .ok (.ifnull 13, 3) := by decide +kernel
theorem dX2_remember_70 : decode cX2_remember 70 = .ok (.aload_n 0, 1) := by decide +kernel
theorem dX2_remember_71 : decode cX2_remember 71 = .ok (.getfield 11, 3) := by decide +kernel
theorem dX2_remember_74 : decode cX2_remember 74 = .ok (.iload_n 2, 1) := by decide +kernel
theorem dX2_remember_75 : decode cX2_remember 75 = .ok (.aaload, 1) := by decide +kernel
theorem dX2_remember_76 : decode cX2_remember 76 = .ok (.aload_n 1, 1) := by decide +kernel
theorem dX2_remember_77 : decode cX2_remember 77 = .ok (.invokevirtual 25, 3) := by decide +kernel
theorem dX2_remember_80 : decode cX2_remember 80 = .ok (.return_, 1) := by decide +kernel
theorem dX2_takeBack_0 : decode cX2_takeBack 0 = .ok (.aload_n 0, 1) := by decide +kernel
theorem dX2_takeBack_1 : decode cX2_takeBack 1 = .ok (.getfield 18, 3) := by decide +kernel
theorem dX2_takeBack_4 : decode cX2_takeBack 4 = .ok (.ifCond .ne 5, 3) := by decide +kernel
theorem dX2_takeBack_7 : decode cX2_takeBack 7 = .ok (.iconst 0, 1) := by decide +kernel
theorem dX2_takeBack_8 : decode cX2_takeBack 8 = .ok (.ireturn, 1) := by decide +kernel
theorem dX2_takeBack_9 : decode cX2_takeBack 9 = .ok (.aload_n 0, 1) := by decide +kernel
theorem dX2_takeBack_10 : decode cX2_takeBack 10 = .ok (.dup, 1) := by decide +kernel
theorem dX2_takeBack_11 : decode cX2_takeBack 11 = .ok (.getfield 18, 3) := by decide +kernel
theorem dX2_takeBack_14 : decode cX2_takeBack 14 = .ok (.iconst 1, 1) := by decide +kernel
theorem dX2_takeBack_15 : decode cX2_takeBack 15 = .ok (.isub, 1) := by decide +kernel
theorem dX2_takeBack_16 : decode cX2_takeBack 16 = .ok (.putfield 18, 3) := by decide +kernel
theorem dX2_takeBack_19 : decode cX2_takeBack 19 = .ok (.aload_n 0, 1) := by decide +kernel
theorem dX2_takeBack_20 : decode cX2_takeBack 20 = .ok (.getfield 22, 3) := by decide +kernel
theorem dX2_takeBack_23 : decode cX2_takeBack 23 = .ok (.aload_n 0, 1) := by decide +kernel
theorem dX2_takeBack_24 : decode cX2_takeBack 24 = .ok (.getfield 18, 3) := by decide +kernel
theorem dX2_takeBack_27 : decode cX2_takeBack 27 = .ok (.iadd, 1) := by decide +kernel
theorem dX2_takeBack_28 : decode cX2_takeBack 28 = .ok (.bipush 6, 2) := by decide +kernel
theorem dX2_takeBack_30 : decode cX2_takeBack 30 = .ok (.irem, 1) := by decide +kernel
theorem dX2_takeBack_31 : decode cX2_takeBack 31 = .ok (.istore_n 2, 1) := by decide +kernel
theorem dX2_takeBack_32 : decode cX2_takeBack 32 = .ok (.iload_n 2, 1) := by decide +kernel
theorem dX2_takeBack_33 : decode cX2_takeBack 33 = .ok (.ifCond .lt 31, 3) := by decide +kernel
theorem dX2_takeBack_36 : decode cX2_takeBack 36 = .ok (.iload_n 2, 1) := by decide +kernel
theorem dX2_takeBack_37 : decode cX2_takeBack 37 = .ok (.aload_n 0, 1) := by decide +kernel
theorem dX2_takeBack_38 : decode cX2_takeBack 38 = .ok (.getfield 11, 3) := by decide +kernel
theorem dX2_takeBack_41 : decode cX2_takeBack 41 = .ok (.arraylength, 1) := by decide +kernel
theorem dX2_takeBack_42 : decode cX2_takeBack 42 = .ok (.if_icmp .ge 22, 3) := by decide +kernel
theorem dX2_takeBack_45 : decode cX2_takeBack 45 = .ok (.aload_n 0, 1) := by decide +kernel
theorem dX2_takeBack_46 : decode cX2_takeBack 46 = .ok (.getfield 11, 3) := by decide +kernel
theorem dX2_takeBack_49 : decode cX2_takeBack 49 = .ok (.iload_n 2, 1) := by decide +kernel
theorem dX2_takeBack_50 : decode cX2_takeBack 50 = .ok (.aaload, 1) := by decide +kernel
theorem dX2_takeBack_51 : decode cX2_takeBack 51 = .ok (.ifnull 13, 3) := by decide +kernel
theorem dX2_takeBack_54 : decode cX2_takeBack 54 = .ok (.aload_n 1, 1) := by decide +kernel
theorem dX2_takeBack_55 : decode cX2_takeBack 55 = .ok (.aload_n 0, 1) := by decide +kernel
theorem dX2_takeBack_56 : decode cX2_takeBack 56 = .ok (.getfield 11, 3) := by decide +kernel
theorem dX2_takeBack_59 : decode cX2_takeBack 59 = .ok (.iload_n 2, 1) := by decide +kernel
theorem dX2_takeBack_60 : decode cX2_takeBack 60 = .ok (.aaload, 1) := by decide +kernel
theorem dX2_takeBack_61 : decode cX2_takeBack 61 = .ok (.invokevirtual 25, 3) := by decide +kernel
theorem dX2_takeBack_64 : decode cX2_takeBack 64 = .ok (.iconst 1, 1) := by decide +kernel
theorem dX2_takeBack_65 : decode cX2_takeBack 65 = .ok (.ireturn, 1) := by decide +kernel
theorem dX3_init_0 : decode cX3_init 0 = .ok (.aload_n 0, 1) := by decide +kernel
theorem dX3_init_1 : decode cX3_init 1 = .ok (.invokespecial 3, 3) := by decide +kernel
theorem dX3_init_4 : decode cX3_init 4 = .ok (.return_, 1) := by decide +kernel
theorem dX3_seekNumbered_0 : decode cX3_seekNumbered 0 = .ok (.iload_n 2, 1) := by decide +kernel
theorem dX3_seekNumbered_1 : decode cX3_seekNumbered 1 = .ok (.ifCond .ge 5, 3) := by decide +kernel
theorem dX3_seekNumbered_4 : decode cX3_seekNumbered 4 = .ok (.iconst 0, 1) := by decide +kernel
theorem dX3_seekNumbered_5 : decode cX3_seekNumbered 5 = .ok (.ireturn, 1) := by decide +kernel
theorem dX3_seekNumbered_6 : decode cX3_seekNumbered 6 = .ok (.iconst 0, 1) := by decide +kernel
theorem dX3_seekNumbered_7 : decode cX3_seekNumbered 7 = .ok (.istore_n 3, 1) := by decide +kernel
theorem dX3_seekNumbered_8 : decode cX3_seekNumbered 8 = .ok (.iconst 0, 1) := by decide +kernel
theorem dX3_seekNumbered_9 : decode cX3_seekNumbered 9 = .ok (.istore 4, 2) := by decide +kernel
theorem dX3_seekNumbered_11 : decode cX3_seekNumbered 11 = .ok (.iload 4, 2) := by decide +kernel
theorem dX3_seekNumbered_13 : decode cX3_seekNumbered 13 = .ok (.aload_n 1, 1) := by decide +kernel
theorem dX3_seekNumbered_14 : decode cX3_seekNumbered 14 = .ok (.invokevirtual 9, 3) := by decide +kernel
theorem dX3_seekNumbered_17 : decode cX3_seekNumbered 17 = .ok (.if_icmp .ge 73, 3) := by decide +kernel
theorem dX3_seekNumbered_20 : decode cX3_seekNumbered 20 = .ok (.iload 4, 2) := by decide +kernel
theorem dX3_seekNumbered_22 : decode cX3_seekNumbered 22 = .ok (.iconst 3, 1) := by decide +kernel
theorem dX3_seekNumbered_23 : decode cX3_seekNumbered 23 = .ok (.iadd, 1) := by decide +kernel
theorem dX3_seekNumbered_24 : decode cX3_seekNumbered 24 = .ok (.iconst 1, 1) := by decide +kernel
theorem dX3_seekNumbered_25 : decode cX3_seekNumbered 25 = .ok (.isub, 1) := by decide +kernel
theorem dX3_seekNumbered_26 : decode cX3_seekNumbered 26 = .ok (.istore 5, 2) := by decide +kernel
theorem dX3_seekNumbered_28 : decode cX3_seekNumbered 28 = .ok (.iconst 0, 1) := by decide +kernel
theorem dX3_seekNumbered_29 : decode cX3_seekNumbered 29 = .ok (.istore 6, 2) := by decide +kernel
theorem dX3_seekNumbered_31 : decode cX3_seekNumbered 31 = .ok (.iload 6, 2) := by decide +kernel
theorem dX3_seekNumbered_33 : decode cX3_seekNumbered 33 = .ok (.iconst 4, 1) := by decide +kernel
theorem dX3_seekNumbered_34 : decode cX3_seekNumbered 34 = .ok (.if_icmp .ge 50, 3) := by decide +kernel
theorem dX3_seekNumbered_37 : decode cX3_seekNumbered 37 = .ok (.aload_n 1, 1) := by decide +kernel
theorem dX3_seekNumbered_38 : decode cX3_seekNumbered 38 = .ok (.iload 4, 2) := by decide +kernel
theorem dX3_seekNumbered_40 : decode cX3_seekNumbered 40 = .ok (.iload 5, 2) := by decide +kernel
theorem dX3_seekNumbered_42 : decode cX3_seekNumbered 42 = .ok (.invokevirtual 15, 3) := by decide +kernel
theorem dX3_seekNumbered_45 : decode cX3_seekNumbered 45 = .ok (.istore 5, 2) := by decide +kernel
theorem dX3_seekNumbered_47 : decode cX3_seekNumbered 47 = .ok (.iload 5, 2) := by decide +kernel
theorem dX3_seekNumbered_49 : decode cX3_seekNumbered 49 = .ok (.iconst (-1), 1) := by decide +kernel
theorem dX3_seekNumbered_50 : decode cX3_seekNumbered 50 = .ok (.if_icmp .ne 6, 3) := by decide +kernel
theorem dX3_seekNumbered_53 : decode cX3_seekNumbered 53 = .ok (.goto 31, 3) := by decide +kernel
theorem dX3_seekNumbered_56 : decode cX3_seekNumbered 56 = .ok (.iload_n 3, 1) := by decide +kernel
theorem dX3_seekNumbered_57 : decode cX3_seekNumbered 57 = .ok (.iload_n 2, 1) := by decide +kernel
theorem dX3_seekNumbered_58 : decode cX3_seekNumbered 58 = .ok (.if_icmp .ne 17, 3) := by decide +kernel
theorem dX3_seekNumbered_61 : decode cX3_seekNumbered 61 = .ok (.aload_n 0, 1) := by decide +kernel
theorem dX3_seekNumbered_62 : decode cX3_seekNumbered 62 = .ok (.iload 4, 2) := by decide +kernel
theorem dX3_seekNumbered_64 : decode cX3_seekNumbered 64 = .ok (.putfield 19, 3) := by decide +kernel
theorem dX3_seekNumbered_67 : decode cX3_seekNumbered 67 = .ok (.aload_n 0, 1) := by decide +kernel
theorem dX3_seekNumbered_68 : decode cX3_seekNumbered 68 = .ok (.iload 5, 2) := by decide +kernel
theorem dX3_seekNumbered_70 : decode cX3_seekNumbered 70 = .ok (.putfield 25, 3) := by decide +kernel
theorem dX3_seekNumbered_73 : decode cX3_seekNumbered 73 = .ok (.iconst 1, 1) := by decide +kernel
theorem dX3_seekNumbered_74 : decode cX3_seekNumbered 74 = .ok (.ireturn, 1) := by decide +kernel
theorem dX3_seekNumbered_75 : decode cX3_seekNumbered 75 = .ok (.iinc 3 1, 3) := by decide +kernel
theorem dX3_seekNumbered_78 : decode cX3_seekNumbered 78 = .ok (.iinc 6 1, 3) := by decide +kernel
theorem dX3_seekNumbered_81 : decode cX3_seekNumbered 81 = .ok (.goto (-50), 3) := by decide +kernel
theorem dX3_seekNumbered_84 : decode cX3_seekNumbered 84 = .ok (.iinc 4 1, 3) := by decide +kernel
theorem dX3_seekNumbered_87 : decode cX3_seekNumbered 87 = .ok (.goto (-76), 3) := by decide +kernel
theorem dX3_seekNumbered_90 : decode cX3_seekNumbered 90 = .ok (.iconst 0, 1) := by decide +kernel
theorem dX3_seekNumbered_91 : decode cX3_seekNumbered 91 = .ok (.ireturn, 1) := by decide +kernel
theorem dX3_seekWidest_0 : decode cX3_seekWidest 0 = .ok (.aload_n 0, 1) := by decide +kernel
theorem dX3_seekWidest_1 : decode cX3_seekWidest 1 = .ok (.iconst (-1), 1) := by decide +kernel
theorem dX3_seekWidest_2 : decode cX3_seekWidest 2 = .ok (.putfield 19, 3) := by decide +kernel
theorem dX3_seekWidest_5 : decode cX3_seekWidest 5 = .ok (.aload_n 0, 1) := by decide +kernel
theorem dX3_seekWidest_6 : decode cX3_seekWidest 6 = .ok (.iconst (-1), 1) := by decide +kernel
theorem dX3_seekWidest_7 : decode cX3_seekWidest 7 = .ok (.putfield 25, 3) := by decide +kernel
theorem dX3_seekWidest_10 : decode cX3_seekWidest 10 = .ok (.iconst 2, 1) := by decide +kernel
theorem dX3_seekWidest_11 : decode cX3_seekWidest 11 = .ok (.istore_n 3, 1) := by decide +kernel
theorem dX3_seekWidest_12 : decode cX3_seekWidest 12 = .ok (.aload_n 1, 1) := by decide +kernel
theorem dX3_seekWidest_13 : decode cX3_seekWidest 13 = .ok (.getfield 28, 3) := by decide +kernel
theorem dX3_seekWidest_16 : decode cX3_seekWidest 16 = .ok (.astore 4, 2) := by decide +kernel
theorem dX3_seekWidest_18 : decode cX3_seekWidest 18 = .ok (.iconst 0, 1) := by decide +kernel
theorem dX3_seekWidest_19 : decode cX3_seekWidest 19 = .ok (.istore 5, 2) := by decide +kernel
theorem dX3_seekWidest_21 : decode cX3_seekWidest 21 = .ok (.iload 5, 2) := by decide +kernel
theorem dX3_seekWidest_23 : decode cX3_seekWidest 23 = .ok (.aload 4, 2) := by decide +kernel
theorem dX3_seekWidest_25 : decode cX3_seekWidest 25 = .ok (.invokevirtual 9, 3) := by decide +kernel
theorem dX3_seekWidest_28 : decode cX3_seekWidest 28 = .ok (.if_icmp .ge 74, 3) := by decide +kernel
theorem dX3_seekWidest_31 : decode cX3_seekWidest 31 = .ok (.iconst 0, 1) := by decide +kernel
theorem dX3_seekWidest_32 : decode cX3_seekWidest 32 = .ok (.istore 6, 2) := by decide +kernel
theorem dX3_seekWidest_34 : decode cX3_seekWidest 34 = .ok (.iload 6, 2) := by decide +kernel
theorem dX3_seekWidest_36 : decode cX3_seekWidest 36 = .ok (.iconst 4, 1) := by decide +kernel
theorem dX3_seekWidest_37 : decode cX3_seekWidest 37 = .ok (.if_icmp .ge 59, 3) := by decide +kernel
theorem dX3_seekWidest_40 : decode cX3_seekWidest 40 = .ok (.aload 4, 2) := by decide +kernel
theorem dX3_seekWidest_42 : decode cX3_seekWidest 42 = .ok (.iload 5, 2) := by decide +kernel
theorem dX3_seekWidest_44 : decode cX3_seekWidest 44 = .ok (.iload 6, 2) := by decide +kernel
theorem dX3_seekWidest_46 : decode cX3_seekWidest 46 = .ok (.invokevirtual 34, 3) := by decide +kernel
theorem dX3_seekWidest_49 : decode cX3_seekWidest 49 = .ok (.istore 7, 2) := by decide +kernel
theorem dX3_seekWidest_51 : decode cX3_seekWidest 51 = .ok (.iload 7, 2) := by decide +kernel
theorem dX3_seekWidest_53 : decode cX3_seekWidest 53 = .ok (.iload 5, 2) := by decide +kernel
theorem dX3_seekWidest_55 : decode cX3_seekWidest 55 = .ok (.isub, 1) := by decide +kernel
theorem dX3_seekWidest_56 : decode cX3_seekWidest 56 = .ok (.iload_n 3, 1) := by decide +kernel
theorem dX3_seekWidest_57 : decode cX3_seekWidest 57 = .ok (.if_icmp .le 33, 3) := by decide +kernel
theorem dX3_seekWidest_60 : decode cX3_seekWidest 60 = .ok (.aload_n 1, 1) := by decide +kernel
theorem dX3_seekWidest_61 : decode cX3_seekWidest 61 = .ok (.iload 5, 2) := by decide +kernel
theorem dX3_seekWidest_63 : decode cX3_seekWidest 63 = .ok (.iload 7, 2) := by decide +kernel
theorem dX3_seekWidest_65 : decode cX3_seekWidest 65 = .ok (.invokevirtual 37, 3) := by decide +kernel
theorem dX3_seekWidest_68 : decode cX3_seekWidest 68 = .ok (.iload_n 2, 1) := by decide +kernel
theorem dX3_seekWidest_69 : decode cX3_seekWidest 69 = .ok (.if_icmp .lt 21, 3) := by decide +kernel
theorem dX3_seekWidest_72 : decode cX3_seekWidest 72 = .ok (.aload_n 0, 1) := by decide +kernel
theorem dX3_seekWidest_73 : decode cX3_seekWidest 73 = .ok (.iload 5, 2) := by decide +kernel
theorem dX3_seekWidest_75 : decode cX3_seekWidest 75 = .ok (.putfield 19, 3) := by decide +kernel
theorem dX3_seekWidest_78 : decode cX3_seekWidest 78 = .ok (.aload_n 0, 1) := by decide +kernel
theorem dX3_seekWidest_79 : decode cX3_seekWidest 79 = .ok (.iload 7, 2) := by decide +kernel
theorem dX3_seekWidest_81 : decode cX3_seekWidest 81 = .ok (.putfield 25, 3) := by decide +kernel
theorem dX3_seekWidest_84 : decode cX3_seekWidest 84 = .ok (.iload 7, 2) := by decide +kernel
theorem dX3_seekWidest_86 : decode cX3_seekWidest 86 = .ok (.iload 5, 2) := by decide +kernel
theorem dX3_seekWidest_88 : decode cX3_seekWidest 88 = .ok (.isub, 1) := by decide +kernel
theorem dX3_seekWidest_89 : decode cX3_seekWidest 89 = .ok (.istore_n 3, 1) := by decide +kernel
theorem dX3_seekWidest_90 : decode cX3_seekWidest 90 = .ok (.iinc 6 1, 3) := by decide +kernel
theorem dX3_seekWidest_93 : decode cX3_seekWidest 93 = .ok (.goto (-59), 3) := by decide +kernel
theorem dX3_seekWidest_96 : decode cX3_seekWidest 96 = .ok (.iinc 5 1, 3) := by decide +kernel
theorem dX3_seekWidest_99 : decode cX3_seekWidest 99 = .ok (.goto (-78), 3) := by decide +kernel
theorem dX3_seekWidest_102 : decode cX3_seekWidest 102 = .ok (.aload_n 0, 1) := by decide +kernel
theorem dX3_seekWidest_103 : decode cX3_seekWidest 103 = .ok (.getfield 19, 3) := by decide +kernel
theorem dX3_seekWidest_106 : decode cX3_seekWidest 106 = .ok (.iconst (-1), 1) := by decide +kernel
theorem dX3_seekWidest_107 : decode cX3_seekWidest 107 = .ok (.if_icmp .eq 7, 3) := by decide +kernel
theorem dX3_seekWidest_110 : decode cX3_seekWidest 110 = .ok (.iconst 1, 1) := by decide +kernel
theorem dX3_seekWidest_111 : decode cX3_seekWidest 111 = .ok (.goto 4, 3) := by decide +kernel
theorem dX3_seekWidest_114 : decode cX3_seekWidest 114 = .ok (.iconst 0, 1) := by decide +kernel
theorem dX3_seekWidest_115 : decode cX3_seekWidest 115 = .ok (.ireturn, 1) := by decide +kernel
theorem dX4_init_0 : decode cX4_init 0 = .ok (.aload_n 0, 1) := by decide +kernel
theorem dX4_init_1 : decode cX4_init 1 = .ok (.invokespecial 3, 3) := by decide +kernel
theorem dX4_init_4 : decode cX4_init 4 = .ok (.aload_n 0, 1) := by decide +kernel
theorem dX4_init_5 : decode cX4_init 5 = .ok (.sipush 240, 3) := by decide +kernel
theorem dX4_init_8 : decode cX4_init 8 = .ok (.newarray .int, 2) := by decide +kernel
theorem dX4_init_10 : decode cX4_init 10 = .ok (.putfield 9, 3) := by decide +kernel
theorem dX4_init_13 : decode cX4_init 13 = .ok (.aload_n 0, 1) := by decide +kernel
theorem dX4_init_14 : decode cX4_init 14 = .ok (.bipush 12, 2) := by decide +kernel
theorem dX4_init_16 : decode cX4_init 16 = .ok (.newarray .int, 2) := by decide +kernel
theorem dX4_init_18 : decode cX4_init 18 = .ok (.putfield 15, 3) := by decide +kernel
theorem dX4_init_21 : decode cX4_init 21 = .ok (.aload_n 0, 1) := by decide +kernel
theorem dX4_init_22 : decode cX4_init 22 = .ok (.bipush 12, 2) := by decide +kernel
theorem dX4_init_24 : decode cX4_init 24 = .ok (.newarray .int, 2) := by decide +kernel
theorem dX4_init_26 : decode cX4_init 26 = .ok (.putfield 18, 3) := by decide +kernel
theorem dX4_init_29 : decode cX4_init 29 = .ok (.aload_n 0, 1) := by decide +kernel
theorem dX4_init_30 : decode cX4_init 30 = .ok (.bipush 12, 2) := by decide +kernel
theorem dX4_init_32 : decode cX4_init 32 = .ok (.newarray .int, 2) := by decide +kernel
theorem dX4_init_34 : decode cX4_init 34 = .ok (.putfield 21, 3) := by decide +kernel
theorem dX4_init_37 : decode cX4_init 37 = .ok (.aload_n 0, 1) := by decide +kernel
theorem dX4_init_38 : decode cX4_init 38 = .ok (.invokevirtual 24, 3) := by decide +kernel
theorem dX4_init_41 : decode cX4_init 41 = .ok (.return_, 1) := by decide +kernel
theorem dX4_clear_0 : decode cX4_clear 0 = .ok (.aload_n 0, 1) := by decide +kernel
theorem dX4_clear_1 : decode cX4_clear 1 = .ok (.iconst 0, 1) := by decide +kernel
theorem dX4_clear_2 : decode cX4_clear 2 = .ok (.putfield 27, 3) := by decide +kernel
theorem dX4_clear_5 : decode cX4_clear 5 = .ok (.aload_n 0, 1) := by decide +kernel
theorem dX4_clear_6 : decode cX4_clear 6 = .ok (.getfield 9, 3) := by decide +kernel
theorem dX4_clear_9 : decode cX4_clear 9 = .ok (.iconst (-1), 1) := by decide +kernel
theorem dX4_clear_10 : decode cX4_clear 10 = .ok (.invokestatic 31, 3) := by decide +kernel
theorem dX4_clear_13 : decode cX4_clear 13 = .ok (.return_, 1) := by decide +kernel
theorem dX4_copyFrom_0 : decode cX4_copyFrom 0 = .ok (.aload_n 1, 1) := by decide +kernel
theorem dX4_copyFrom_1 : decode cX4_copyFrom 1 = .ok (.getfield 9, 3) := by decide +kernel
theorem dX4_copyFrom_4 : decode cX4_copyFrom 4 = .ok (.iconst 0, 1) := by decide +kernel
theorem dX4_copyFrom_5 : decode cX4_copyFrom 5 = .ok (.aload_n 0, 1) := by decide +kernel
theorem dX4_copyFrom_6 : decode cX4_copyFrom 6 = .ok (.getfield 9, 3) := by decide +kernel
theorem dX4_copyFrom_9 : decode cX4_copyFrom 9 = .ok (.iconst 0, 1) := by decide +kernel
theorem dX4_copyFrom_10 : decode cX4_copyFrom 10 = .ok (.sipush 240, 3) := by decide +kernel
theorem dX4_copyFrom_13 : decode cX4_copyFrom 13 = .ok (.invokestatic 37, 3) := by decide +kernel
theorem dX4_copyFrom_16 : decode cX4_copyFrom 16 = .ok (.aload_n 1, 1) := by decide +kernel
theorem dX4_copyFrom_17 : decode cX4_copyFrom 17 = .ok (.getfield 15, 3) := by decide +kernel
theorem dX4_copyFrom_20 : decode cX4_copyFrom 20 = .ok (.iconst 0, 1) := by decide +kernel
theorem dX4_copyFrom_21 : decode cX4_copyFrom 21 = .ok (.aload_n 0, 1) := by decide +kernel
theorem dX4_copyFrom_22 : decode cX4_copyFrom 22 = .ok (.getfield 15, 3) := by decide +kernel
theorem dX4_copyFrom_25 : decode cX4_copyFrom 25 = .ok (.iconst 0, 1) := by decide +kernel
theorem dX4_copyFrom_26 : decode cX4_copyFrom 26 = .ok (.bipush 12, 2) := by decide +kernel
theorem dX4_copyFrom_28 : decode cX4_copyFrom 28 = .ok (.invokestatic 37, 3) := by decide +kernel
theorem dX4_copyFrom_31 : decode cX4_copyFrom 31 = .ok (.aload_n 1, 1) := by decide +kernel
theorem dX4_copyFrom_32 : decode cX4_copyFrom 32 = .ok (.getfield 18, 3) := by decide +kernel
theorem dX4_copyFrom_35 : decode cX4_copyFrom 35 = .ok (.iconst 0, 1) := by decide +kernel
theorem dX4_copyFrom_36 : decode cX4_copyFrom 36 = .ok (.aload_n 0, 1) := by decide +kernel
theorem dX4_copyFrom_37 : decode cX4_copyFrom 37 = .ok (.getfield 18, 3) := by decide +kernel
theorem dX4_copyFrom_40 : decode cX4_copyFrom 40 = .ok (.iconst 0, 1) := by decide +kernel
theorem dX4_copyFrom_41 : decode cX4_copyFrom 41 = .ok (.bipush 12, 2) := by decide +kernel
theorem dX4_copyFrom_43 : decode cX4_copyFrom 43 = .ok (.invokestatic 37, 3) := by decide +kernel
theorem dX4_copyFrom_46 : decode cX4_copyFrom 46 = .ok (.aload_n 1, 1) := by decide +kernel
theorem dX4_copyFrom_47 : decode cX4_copyFrom 47 = .ok (.getfield 21, 3) := by decide +kernel
theorem dX4_copyFrom_50 : decode cX4_copyFrom 50 = .ok (.iconst 0, 1) := by decide +kernel
theorem dX4_copyFrom_51 : decode cX4_copyFrom 51 = .ok (.aload_n 0, 1) := by decide +kernel
theorem dX4_copyFrom_52 : decode cX4_copyFrom 52 = .ok (.getfield 21, 3) := by decide +kernel
theorem dX4_copyFrom_55 : decode cX4_copyFrom 55 = .ok (.iconst 0, 1) := by decide +kernel
theorem dX4_copyFrom_56 : decode cX4_copyFrom 56 = .ok (.bipush 12, 2) := by decide +kernel
theorem dX4_copyFrom_58 : decode cX4_copyFrom 58 = .ok (.invokestatic 37, 3) := by decide +kernel
theorem dX4_copyFrom_61 : decode cX4_copyFrom 61 = .ok (.aload_n 0, 1) := by decide +kernel
theorem dX4_copyFrom_62 : decode cX4_copyFrom 62 = .ok (.aload_n 1, 1) := by decide +kernel
theorem dX4_copyFrom_63 : decode cX4_copyFrom 63 = .ok (.getfield 27, 3) := by decide +kernel
theorem dX4_copyFrom_66 : decode cX4_copyFrom 66 = .ok (.putfield 27, 3) := by decide +kernel
theorem dX4_copyFrom_69 : decode cX4_copyFrom 69 = .ok (.return_, 1) := by decide +kernel
theorem dX4_length_0 : decode cX4_length 0 = .ok (.aload_n 0, 1) := by decide +kernel
theorem dX4_length_1 : decode cX4_length 1 = .ok (.getfield 27, 3) := by decide +kernel
theorem dX4_length_4 : decode cX4_length 4 = .ok (.ireturn, 1) := by decide +kernel
theorem dX4_has_0 : decode cX4_has 0 = .ok (.iload_n 1, 1) := by decide +kernel
theorem dX4_has_1 : decode cX4_has 1 = .ok (.ifCond .lt 21, 3) := by decide +kernel
theorem dX4_has_4 : decode cX4_has 4 = .ok (.iload_n 1, 1) := by decide +kernel
theorem dX4_has_5 : decode cX4_has 5 = .ok (.aload_n 0, 1) := by decide +kernel
theorem dX4_has_6 : decode cX4_has 6 = .ok (.getfield 27, 3) := by decide +kernel
theorem dX4_has_9 : decode cX4_has 9 = .ok (.if_icmp .ge 13, 3) := by decide +kernel
theorem dX4_has_12 : decode cX4_has 12 = .ok (.iload_n 1, 1) := by decide +kernel
theorem dX4_has_13 : decode cX4_has 13 = .ok (.bipush 12, 2) := by decide +kernel
theorem dX4_has_15 : decode cX4_has 15 = .ok (.if_icmp .ge 7, 3) := by decide +kernel
theorem dX4_has_18 : decode cX4_has 18 = .ok (.iconst 1, 1) := by decide +kernel
theorem dX4_has_19 : decode cX4_has 19 = .ok (.goto 4, 3) := by decide +kernel
theorem dX4_has_22 : decode cX4_has 22 = .ok (.iconst 0, 1) := by decide +kernel
theorem dX4_has_23 : decode cX4_has 23 = .ok (.ireturn, 1) := by decide +kernel
theorem dX4_ownerOf_0 : decode cX4_ownerOf 0 = .ok (.iload_n 1, 1) := by decide +kernel
theorem dX4_ownerOf_1 : decode cX4_ownerOf 1 = .ok (.invokestatic 43, 3) := by decide +kernel
theorem dX4_ownerOf_4 : decode cX4_ownerOf 4 = .ok (.ifCond .eq 12, 3) := by decide +kernel
theorem dX4_ownerOf_7 : decode cX4_ownerOf 7 = .ok (.aload_n 0, 1) := by decide +kernel
theorem dX4_ownerOf_8 : decode cX4_ownerOf 8 = .ok (.getfield 9, 3) := by decide +kernel
theorem dX4_ownerOf_11 : decode cX4_ownerOf 11 = .ok (.iload_n 1, 1) := by decide +kernel
theorem dX4_ownerOf_12 : decode cX4_ownerOf 12 = .ok (.iaload, 1) := by decide +kernel
theorem dX4_ownerOf_13 : decode cX4_ownerOf 13 = .ok (.goto 4, 3) := by decide +kernel
theorem dX4_ownerOf_16 : decode cX4_ownerOf 16 = .ok (.iconst (-1), 1) := by decide +kernel
theorem dX4_ownerOf_17 : decode cX4_ownerOf 17 = .ok (.ireturn, 1) := by decide +kernel
theorem dX4_sizeOf_0 : decode cX4_sizeOf 0 = .ok (.aload_n 0, 1) := by decide +kernel
theorem dX4_sizeOf_1 : decode cX4_sizeOf 1 = .ok (.iload_n 1, 1) := by decide +kernel
theorem dX4_sizeOf_2 : decode cX4_sizeOf 2 = .ok (.invokevirtual 47, 3) := by decide +kernel
theorem dX4_sizeOf_5 : decode cX4_sizeOf 5 = .ok (.ifCond .eq 12, 3) := by decide +kernel
theorem dX4_sizeOf_8 : decode cX4_sizeOf 8 = .ok (.aload_n 0, 1) := by decide +kernel
theorem dX4_sizeOf_9 : decode cX4_sizeOf 9 = .ok (.getfield 18, 3) := by decide +kernel
theorem dX4_sizeOf_12 : decode cX4_sizeOf 12 = .ok (.iload_n 1, 1) := by decide +kernel
theorem dX4_sizeOf_13 : decode cX4_sizeOf 13 = .ok (.iaload, 1) := by decide +kernel
theorem dX4_sizeOf_14 : decode cX4_sizeOf 14 = .ok (.goto 4, 3) := by decide +kernel
theorem dX4_sizeOf_17 : decode cX4_sizeOf 17 = .ok (.iconst 0, 1) := by decide +kernel
theorem dX4_sizeOf_18 : decode cX4_sizeOf 18 = .ok (.ireturn, 1) := by decide +kernel
theorem dX4_yearsOf_0 : decode cX4_yearsOf 0 = .ok (.aload_n 0, 1) := by decide +kernel
theorem dX4_yearsOf_1 : decode cX4_yearsOf 1 = .ok (.iload_n 1, 1) := by decide +kernel
theorem dX4_yearsOf_2 : decode cX4_yearsOf 2 = .ok (.invokevirtual 47, 3) := by decide +kernel
theorem dX4_yearsOf_5 : decode cX4_yearsOf 5 = .ok (.ifCond .eq 12, 3) := by decide +kernel
theorem dX4_yearsOf_8 : decode cX4_yearsOf 8 = .ok (.aload_n 0, 1) := by decide +kernel
theorem dX4_yearsOf_9 : decode cX4_yearsOf 9 = .ok (.getfield 21, 3) := by decide +kernel
theorem dX4_yearsOf_12 : decode cX4_yearsOf 12 = .ok (.iload_n 1, 1) := by decide +kernel
theorem dX4_yearsOf_13 : decode cX4_yearsOf 13 = .ok (.iaload, 1) := by decide +kernel
theorem dX4_yearsOf_14 : decode cX4_yearsOf 14 = .ok (.goto 4, 3) := by decide +kernel
theorem dX4_yearsOf_17 : decode cX4_yearsOf 17 = .ok (.iconst 0, 1) := by decide +kernel
theorem dX4_yearsOf_18 : decode cX4_yearsOf 18 = .ok (.ireturn, 1) := by decide +kernel
theorem dX4_firstCellOf_0 : decode cX4_firstCellOf 0 = .ok (.aload_n 0, 1) := by decide +kernel
theorem dX4_firstCellOf_1 : decode cX4_firstCellOf 1 = .ok (.iload_n 1, 1) := by decide +kernel
theorem dX4_firstCellOf_2 : decode cX4_firstCellOf 2 = .ok (.invokevirtual 47, 3) := by decide +kernel
theorem dX4_firstCellOf_5 : decode cX4_firstCellOf 5 = .ok (.ifCond .eq 12, 3) := by decide +kernel
theorem dX4_firstCellOf_8 : decode cX4_firstCellOf 8 = .ok (.aload_n 0, 1) := by decide +kernel
theorem dX4_firstCellOf_9 : decode cX4_firstCellOf 9 = .ok (.getfield 15, 3) := by decide +kernel
theorem dX4_firstCellOf_12 : decode cX4_firstCellOf 12 = .ok (.iload_n 1, 1) := by decide +kernel
theorem dX4_firstCellOf_13 : decode cX4_firstCellOf 13 = .ok (.iaload, 1) := by decide +kernel
theorem dX4_firstCellOf_14 : decode cX4_firstCellOf 14 = .ok (.goto 4, 3) := by decide +kernel
theorem dX4_firstCellOf_17 : decode cX4_firstCellOf 17 = .ok (.iconst 0, 1) := by decide +kernel
theorem dX4_firstCellOf_18 : decode cX4_firstCellOf 18 = .ok (.ireturn, 1) := by decide +kernel
theorem dX4_take_0 : decode cX4_take 0 = .ok (.aload_n 0, 1) := by decide +kernel
theorem dX4_take_1 : decode cX4_take 1 = .ok (.getfield 27, 3) := by decide +kernel
theorem dX4_take_4 : decode cX4_take 4 = .ok (.bipush 12, 2) := by decide +kernel
theorem dX4_take_6 : decode cX4_take 6 = .ok (.if_icmp .lt 8, 3) := by decide +kernel
theorem dX4_take_9 : decode cX4_take 9 = .ok (.aload_n 0, 1) := by decide +kernel
theorem dX4_take_10 : decode cX4_take 10 = .ok (.iconst 0, 1) := by decide +kernel
theorem dX4_take_11 : decode cX4_take 11 = .ok (.invokevirtual 50, 3) := by decide +kernel
theorem dX4_take_14 : decode cX4_take 14 = .ok (.aload_n 0, 1) := by decide +kernel
theorem dX4_take_15 : decode cX4_take 15 = .ok (.getfield 27, 3) := by decide +kernel
theorem dX4_take_18 : decode cX4_take 18 = .ok (.ifCond .lt 12, 3) := by decide +kernel
theorem dX4_take_21 : decode cX4_take 21 = .ok (.aload_n 0, 1) := by decide +kernel
theorem dX4_take_22 : decode cX4_take 22 = .ok (.getfield 27, 3) := by decide +kernel
theorem dX4_take_25 : decode cX4_take 25 = .ok (.bipush 12, 2) := by decide +kernel
theorem dX4_take_27 : decode cX4_take 27 = .ok (.if_icmp .lt 4, 3) := by decide +kernel
theorem dX4_take_30 : decode cX4_take 30 = .ok (.return_, 1) := by decide +kernel
theorem dX4_take_31 : decode cX4_take 31 = .ok (.iload_n 2, 1) := by decide +kernel
theorem dX4_take_32 : decode cX4_take 32 = .ok (.iconst 1, 1) := by decide +kernel
theorem dX4_take_33 : decode cX4_take 33 = .ok (.iadd, 1) := by decide +kernel
theorem dX4_take_34 : decode cX4_take 34 = .ok (.istore 4, 2) := by decide +kernel
theorem dX4_take_36 : decode cX4_take 36 = .ok (.iload 4, 2) := by decide +kernel
theorem dX4_take_38 : decode cX4_take 38 = .ok (.iload_n 3, 1) := by decide +kernel
theorem dX4_take_39 : decode cX4_take 39 = .ok (.if_icmp .ge 36, 3) := by decide +kernel
theorem dX4_take_42 : decode cX4_take 42 = .ok (.aload_n 1, 1) := by decide +kernel
theorem dX4_take_43 : decode cX4_take 43 = .ok (.iload 4, 2) := by decide +kernel
theorem dX4_take_45 : decode cX4_take 45 = .ok (.invokevirtual 54, 3) := by decide +kernel
theorem dX4_take_48 : decode cX4_take 48 = .ok (.istore 5, 2) := by decide +kernel
theorem dX4_take_50 : decode cX4_take 50 = .ok (.iload 5, 2) := by decide +kernel
theorem dX4_take_52 : decode cX4_take 52 = .ok (.invokestatic 43, 3) := by decide +kernel
theorem dX4_take_55 : decode cX4_take 55 = .ok (.ifCond .eq 14, 3) := by decide +kernel
theorem dX4_take_58 : decode cX4_take 58 = .ok (.aload_n 0, 1) := by decide +kernel
theorem dX4_take_59 : decode cX4_take 59 = .ok (.getfield 9, 3) := by decide +kernel
theorem dX4_take_62 : decode cX4_take 62 = .ok (.iload 5, 2) := by decide +kernel
theorem dX4_take_64 : decode cX4_take 64 = .ok (.aload_n 0, 1) := by decide +kernel
theorem dX4_take_65 : decode cX4_take 65 = .ok (.getfield 27, 3) := by decide +kernel
theorem dX4_take_68 : decode cX4_take 68 = .ok (.iastore, 1) := by decide +kernel
theorem dX4_take_69 : decode cX4_take 69 = .ok (.iinc 4 1, 3) := by decide +kernel
theorem dX4_take_72 : decode cX4_take 72 = .ok (.goto (-36), 3) := by decide +kernel
theorem dX4_take_75 : decode cX4_take 75 = .ok (.aload_n 0, 1) := by decide +kernel
theorem dX4_take_76 : decode cX4_take 76 = .ok (.getfield 15, 3) := by decide +kernel
theorem dX4_take_79 : decode cX4_take 79 = .ok (.aload_n 0, 1) := by decide +kernel
theorem dX4_take_80 : decode cX4_take 80 = .ok (.getfield 27, 3) := by decide +kernel
theorem dX4_take_83 : decode cX4_take 83 = .ok (.aload_n 1, 1) := by decide +kernel
theorem dX4_take_84 : decode cX4_take 84 = .ok (.iload_n 2, 1) := by decide +kernel
theorem dX4_take_85 : decode cX4_take 85 = .ok (.iconst 1, 1) := by decide +kernel
theorem dX4_take_86 : decode cX4_take 86 = .ok (.iadd, 1) := by decide +kernel
theorem dX4_take_87 : decode cX4_take 87 = .ok (.invokevirtual 54, 3) := by decide +kernel
theorem dX4_take_90 : decode cX4_take 90 = .ok (.iastore, 1) := by decide +kernel
theorem dX4_take_91 : decode cX4_take 91 = .ok (.aload_n 0, 1) := by decide +kernel
theorem dX4_take_92 : decode cX4_take 92 = .ok (.getfield 18, 3) := by decide +kernel
theorem dX4_take_95 : decode cX4_take 95 = .ok (.aload_n 0, 1) := by decide +kernel
theorem dX4_take_96 : decode cX4_take 96 = .ok (.getfield 27, 3) := by decide +kernel
theorem dX4_take_99 : decode cX4_take 99 = .ok (.iload_n 3, 1) := by decide +kernel
theorem dX4_take_100 : decode cX4_take 100 = .ok (.iload_n 2, 1) := by decide +kernel
theorem dX4_take_101 : decode cX4_take 101 = .ok (.isub, 1) := by decide +kernel
theorem dX4_take_102 : decode cX4_take 102 = .ok (.iconst 1, 1) := by decide +kernel
theorem dX4_take_103 : decode cX4_take 103 = .ok (.isub, 1) := by decide +kernel
theorem dX4_take_104 : decode cX4_take 104 = .ok (.iastore, 1) := by decide +kernel
theorem dX4_take_105 : decode cX4_take 105 = .ok (.aload_n 0, 1) := by decide +kernel
theorem dX4_take_106 : decode cX4_take 106 = .ok (.getfield 21, 3) := by decide +kernel
theorem dX4_take_109 : decode cX4_take 109 = .ok (.aload_n 0, 1) := by decide +kernel
theorem dX4_take_110 : decode cX4_take 110 = .ok (.getfield 27, 3) := by decide +kernel
theorem dX4_take_113 : decode cX4_take 113 = .ok (.iconst 0, 1) := by decide +kernel
theorem dX4_take_114 : decode cX4_take 114 = .ok (.iastore, 1) := by decide +kernel
theorem dX4_take_115 : decode cX4_take 115 = .ok (.aload_n 0, 1) := by decide +kernel
theorem dX4_take_116 : decode cX4_take 116 = .ok (.dup, 1) := by decide +kernel
theorem dX4_take_117 : decode cX4_take 117 = .ok (.getfield 27, 3) := by decide +kernel
theorem dX4_take_120 : decode cX4_take 120 = .ok (.iconst 1, 1) := by decide +kernel
theorem dX4_take_121 : decode cX4_take 121 = .ok (.iadd, 1) := by decide +kernel
theorem dX4_take_122 : decode cX4_take 122 = .ok (.putfield 27, 3) := by decide +kernel
theorem dX4_take_125 : decode cX4_take 125 = .ok (.return_, 1) := by decide +kernel
theorem dX4_drop_0 : decode cX4_drop 0 = .ok (.aload_n 0, 1) := by decide +kernel
theorem dX4_drop_1 : decode cX4_drop 1 = .ok (.iload_n 1, 1) := by decide +kernel
theorem dX4_drop_2 : decode cX4_drop 2 = .ok (.invokevirtual 47, 3) := by decide +kernel
theorem dX4_drop_5 : decode cX4_drop 5 = .ok (.ifCond .ne 4, 3) := by decide +kernel
theorem dX4_drop_8 : decode cX4_drop 8 = .ok (.return_, 1) := by decide +kernel
theorem dX4_drop_9 : decode cX4_drop 9 = .ok (.iconst 0, 1) := by decide +kernel
theorem dX4_drop_10 : decode cX4_drop 10 = .ok (.istore_n 2, 1) := by decide +kernel
theorem dX4_drop_11 : decode cX4_drop 11 = .ok (.iload_n 2, 1) := by decide +kernel
theorem dX4_drop_12 : decode cX4_drop 12 = .ok (.sipush 240, 3) := by decide +kernel
theorem dX4_drop_15 : decode cX4_drop 15 = .ok (.if_icmp .ge 49, 3) := by decide +kernel
theorem dX4_drop_18 : decode cX4_drop 18 = .ok (.aload_n 0, 1) := by decide +kernel
theorem dX4_drop_19 : decode cX4_drop 19 = .ok (.getfield 9, 3) := by decide +kernel
theorem dX4_drop_22 : decode cX4_drop 22 = .ok (.iload_n 2, 1) := by decide +kernel
theorem dX4_drop_23 : decode cX4_drop 23 = .ok (.iaload, 1) := by decide +kernel
theorem dX4_drop_24 : decode cX4_drop 24 = .ok (.iload_n 1, 1) := by decide +kernel
theorem dX4_drop_25 : decode cX4_drop 25 = .ok (.if_icmp .ne 13, 3) := by decide +kernel
theorem dX4_drop_28 : decode cX4_drop 28 = .ok (.aload_n 0, 1) := by decide +kernel
theorem dX4_drop_29 : decode cX4_drop 29 = .ok (.getfield 9, 3) := by decide +kernel
theorem dX4_drop_32 : decode cX4_drop 32 = .ok (.iload_n 2, 1) := by decide +kernel
theorem dX4_drop_33 : decode cX4_drop 33 = .ok (.iconst (-1), 1) := by decide +kernel
theorem dX4_drop_34 : decode cX4_drop 34 = .ok (.iastore, 1) := by decide +kernel
theorem dX4_drop_35 : decode cX4_drop 35 = .ok (.goto 23, 3) := by decide +kernel
theorem dX4_drop_38 : decode cX4_drop 38 = .ok (.aload_n 0, 1) := by decide +kernel
theorem dX4_drop_39 : decode cX4_drop 39 = .ok (.getfield 9, 3) := by decide +kernel
theorem dX4_drop_42 : decode cX4_drop 42 = .ok (.iload_n 2, 1) := by decide +kernel
theorem dX4_drop_43 : decode cX4_drop 43 = .ok (.iaload, 1) := by decide +kernel
theorem dX4_drop_44 : decode cX4_drop 44 = .ok (.iload_n 1, 1) := by decide +kernel
theorem dX4_drop_45 : decode cX4_drop 45 = .ok (.if_icmp .le 13, 3) := by decide +kernel
theorem dX4_drop_48 : decode cX4_drop 48 = .ok (.aload_n 0, 1) := by decide +kernel
theorem dX4_drop_49 : decode cX4_drop 49 = .ok (.getfield 9, 3) := by decide +kernel
theorem dX4_drop_52 : decode cX4_drop 52 = .ok (.iload_n 2, 1) := by decide +kernel
theorem dX4_drop_53 : decode cX4_drop 53 = .ok (.dup2, 1) := by decide +kernel
theorem dX4_drop_54 : decode cX4_drop 54 = .ok (.iaload, 1) := by decide +kernel
theorem dX4_drop_55 : decode cX4_drop 55 = .ok (.iconst 1, 1) := by decide +kernel
theorem dX4_drop_56 : decode cX4_drop 56 = .ok (.isub, 1) := by decide +kernel
theorem dX4_drop_57 : decode cX4_drop 57 = .ok (.iastore, 1) := by decide +kernel
theorem dX4_drop_58 : decode cX4_drop 58 = .ok (.iinc 2 1, 3) := by decide +kernel
theorem dX4_drop_61 : decode cX4_drop 61 = .ok (.goto (-50), 3) := by decide +kernel
theorem dX4_drop_64 : decode cX4_drop 64 = .ok (.iload_n 1, 1) := by decide +kernel
theorem dX4_drop_65 : decode cX4_drop 65 = .ok (.iconst 1, 1) := by decide +kernel
theorem dX4_drop_66 : decode cX4_drop 66 = .ok (.iadd, 1) := by decide +kernel
theorem dX4_drop_67 : decode cX4_drop 67 = .ok (.istore_n 2, 1) := by decide +kernel
theorem dX4_drop_68 : decode cX4_drop 68 = .ok (.iload_n 2, 1) := by decide +kernel
theorem dX4_drop_69 : decode cX4_drop 69 = .ok (.aload_n 0, 1) := by decide +kernel
theorem dX4_drop_70 : decode cX4_drop 70 = .ok (.getfield 27, 3) := by decide +kernel
theorem dX4_drop_73 : decode cX4_drop 73 = .ok (.if_icmp .ge 57, 3) := by decide +kernel
theorem dX4_drop_76 : decode cX4_drop 76 = .ok (.iload_n 2, 1) := by decide +kernel
theorem dX4_drop_77 : decode cX4_drop 77 = .ok (.bipush 12, 2) := by decide +kernel
theorem dX4_drop_79 : decode cX4_drop 79 = .ok (.if_icmp .ge 51, 3) := by decide +kernel
theorem dX4_drop_82 : decode cX4_drop 82 = .ok (.aload_n 0, 1) := by decide +kernel
theorem dX4_drop_83 : decode cX4_drop 83 = .ok (.getfield 15, 3) := by decide +kernel
theorem dX4_drop_86 : decode cX4_drop 86 = .ok (.iload_n 2, 1) := by decide +kernel
theorem dX4_drop_87 : decode cX4_drop 87 = .ok (.iconst 1, 1) := by decide +kernel
theorem dX4_drop_88 : decode cX4_drop 88 = .ok (.isub, 1) := by decide +kernel
theorem dX4_drop_89 : decode cX4_drop 89 = .ok (.aload_n 0, 1) := by decide +kernel
theorem dX4_drop_90 : decode cX4_drop 90 = .ok (.getfield 15, 3) := by decide +kernel
theorem dX4_drop_93 : decode cX4_drop 93 = .ok (.iload_n 2, 1) := by decide +kernel
theorem dX4_drop_94 : decode cX4_drop 94 = .ok (.iaload, 1) := by decide +kernel
theorem dX4_drop_95 : decode cX4_drop 95 = .ok (.iastore, 1) := by decide +kernel
theorem dX4_drop_96 : decode cX4_drop 96 = .ok (.aload_n 0, 1) := by decide +kernel
theorem dX4_drop_97 : decode cX4_drop 97 = .ok (.getfield 18, 3) := by decide +kernel
theorem dX4_drop_100 : decode cX4_drop 100 = .ok (.iload_n 2, 1) := by decide +kernel
theorem dX4_drop_101 : decode cX4_drop 101 = .ok (.iconst 1, 1) := by decide +kernel
theorem dX4_drop_102 : decode cX4_drop 102 = .ok (.isub, 1) := by decide +kernel
theorem dX4_drop_103 : decode cX4_drop 103 = .ok (.aload_n 0, 1) := by decide +kernel
theorem dX4_drop_104 : decode cX4_drop 104 = .ok (.getfield 18, 3) := by decide +kernel
theorem dX4_drop_107 : decode cX4_drop 107 = .ok (.iload_n 2, 1) := by decide +kernel
theorem dX4_drop_108 : decode cX4_drop 108 = .ok (.iaload, 1) := by decide +kernel
theorem dX4_drop_109 : decode cX4_drop 109 = .ok (.iastore, 1) := by decide +kernel
theorem dX4_drop_110 : decode cX4_drop 110 = .ok (.aload_n 0, 1) := by decide +kernel
theorem dX4_drop_111 : decode cX4_drop 111 = .ok (.getfield 21, 3) := by decide +kernel
theorem dX4_drop_114 : decode cX4_drop 114 = .ok (.iload_n 2, 1) := by decide +kernel
theorem dX4_drop_115 : decode cX4_drop 115 = .ok (.iconst 1, 1) := by decide +kernel
theorem dX4_drop_116 : decode cX4_drop 116 = .ok (.isub, 1) := by decide +kernel
theorem dX4_drop_117 : decode cX4_drop 117 = .ok (.aload_n 0, 1) := by decide +kernel
theorem dX4_drop_118 : decode cX4_drop 118 = .ok (.getfield 21, 3) := by decide +kernel
theorem dX4_drop_121 : decode cX4_drop 121 = .ok (.iload_n 2, 1) := by decide +kernel
theorem dX4_drop_122 : decode cX4_drop 122 = .ok (.iaload, 1) := by decide +kernel
theorem dX4_drop_123 : decode cX4_drop 123 = .ok (.iastore, 1) := by decide +kernel
theorem dX4_drop_124 : decode cX4_drop 124 = .ok (.iinc 2 1, 3) := by decide +kernel
theorem dX4_drop_127 : decode cX4_drop 127 = .ok (.goto (-59), 3) := by decide +kernel
theorem dX4_drop_130 : decode cX4_drop 130 = .ok (.aload_n 0, 1) := by decide +kernel
theorem dX4_drop_131 : decode cX4_drop 131 = .ok (.dup, 1) := by decide +kernel
theorem dX4_drop_132 : decode cX4_drop 132 = .ok (.getfield 27, 3) := by decide +kernel
theorem dX4_drop_135 : decode cX4_drop 135 = .ok (.iconst 1, 1) := by decide +kernel
theorem dX4_drop_136 : decode cX4_drop 136 = .ok (.isub, 1) := by decide +kernel
theorem dX4_drop_137 : decode cX4_drop 137 = .ok (.putfield 27, 3) := by decide +kernel
theorem dX4_drop_140 : decode cX4_drop 140 = .ok (.return_, 1) := by decide +kernel
theorem dX4_passYear_0 : decode cX4_passYear 0 = .ok (.aload_n 0, 1) := by decide +kernel
theorem dX4_passYear_1 : decode cX4_passYear 1 = .ok (.getfield 27, 3) := by decide +kernel
theorem dX4_passYear_4 : decode cX4_passYear 4 = .ok (.bipush 12, 2) := by decide +kernel
theorem dX4_passYear_6 : decode cX4_passYear 6 = .ok (.invokestatic 60, 3) := by decide +kernel
theorem dX4_passYear_9 : decode cX4_passYear 9 = .ok (.iconst 1, 1) := by decide +kernel
theorem dX4_passYear_10 : decode cX4_passYear 10 = .ok (.isub, 1) := by decide +kernel
theorem dX4_passYear_11 : decode cX4_passYear 11 = .ok (.istore_n 2, 1) := by decide +kernel
theorem dX4_passYear_12 : decode cX4_passYear 12 = .ok (.iload_n 2, 1) := by decide +kernel
theorem dX4_passYear_13 : decode cX4_passYear 13 = .ok (.ifCond .lt 34, 3) := by decide +kernel
theorem dX4_passYear_16 : decode cX4_passYear 16 = .ok (.aload_n 0, 1) := by decide +kernel
theorem dX4_passYear_17 : decode cX4_passYear 17 = .ok (.getfield 21, 3) := by decide +kernel
theorem dX4_passYear_20 : decode cX4_passYear 20 = .ok (.iload_n 2, 1) := by decide +kernel
theorem dX4_passYear_21 : decode cX4_passYear 21 = .ok (.dup2, 1) := by decide +kernel
theorem dX4_passYear_22 : decode cX4_passYear 22 = .ok (.iaload, 1) := by decide +kernel
theorem dX4_passYear_23 : decode cX4_passYear 23 = .ok (.iconst 1, 1) := by decide +kernel
theorem dX4_passYear_24 : decode cX4_passYear 24 = .ok (.iadd, 1) := by decide +kernel
theorem dX4_passYear_25 : decode cX4_passYear 25 = .ok (.iastore, 1) := by decide +kernel
theorem dX4_passYear_26 : decode cX4_passYear 26 = .ok (.aload_n 0, 1) := by decide +kernel
theorem dX4_passYear_27 : decode cX4_passYear 27 = .ok (.getfield 21, 3) := by decide +kernel
theorem dX4_passYear_30 : decode cX4_passYear 30 = .ok (.iload_n 2, 1) := by decide +kernel
theorem dX4_passYear_31 : decode cX4_passYear 31 = .ok (.iaload, 1) := by decide +kernel
theorem dX4_passYear_32 : decode cX4_passYear 32 = .ok (.iload_n 1, 1) := by decide +kernel
theorem dX4_passYear_33 : decode cX4_passYear 33 = .ok (.if_icmp .lt 8, 3) := by decide +kernel
theorem dX4_passYear_36 : decode cX4_passYear 36 = .ok (.aload_n 0, 1) := by decide +kernel
theorem dX4_passYear_37 : decode cX4_passYear 37 = .ok (.iload_n 2, 1) := by decide +kernel
theorem dX4_passYear_38 : decode cX4_passYear 38 = .ok (.invokevirtual 50, 3) := by decide +kernel
theorem dX4_passYear_41 : decode cX4_passYear 41 = .ok (.iinc 2 (-1), 3) := by decide +kernel
theorem dX4_passYear_44 : decode cX4_passYear 44 = .ok (.goto (-32), 3) := by decide +kernel
theorem dX4_passYear_47 : decode cX4_passYear 47 = .ok (.return_, 1) := by decide +kernel
theorem dX5_init_0 : decode cX5_init 0 = .ok (.aload_n 0, 1) := by decide +kernel
theorem dX5_init_1 : decode cX5_init 1 = .ok (.invokespecial 3, 3) := by decide +kernel
theorem dX5_init_4 : decode cX5_init 4 = .ok (.aload_n 0, 1) := by decide +kernel
theorem dX5_init_5 : decode cX5_init 5 = .ok (.bipush 64, 2) := by decide +kernel
theorem dX5_init_7 : decode cX5_init 7 = .ok (.newarray .int, 2) := by decide +kernel
theorem dX5_init_9 : decode cX5_init 9 = .ok (.putfield 11, 3) := by decide +kernel
theorem dX5_init_12 : decode cX5_init 12 = .ok (.aload_n 0, 1) := by decide +kernel
theorem dX5_init_13 : decode cX5_init 13 = .ok (.sipush 150, 3) := by decide +kernel
theorem dX5_init_16 : decode cX5_init 16 = .ok (.newarray .int, 2) := by decide +kernel
theorem dX5_init_18 : decode cX5_init 18 = .ok (.putfield 15, 3) := by decide +kernel
theorem dX5_init_21 : decode cX5_init 21 = .ok (.return_, 1) := by decide +kernel
theorem dX5_length_0 : decode cX5_length 0 = .ok (.aload_n 0, 1) := by decide +kernel
theorem dX5_length_1 : decode cX5_length 1 = .ok (.getfield 18, 3) := by decide +kernel
theorem dX5_length_4 : decode cX5_length 4 = .ok (.ireturn, 1) := by decide +kernel
theorem dX5_stepCount_0 : decode cX5_stepCount 0 = .ok (.aload_n 0, 1) := by decide +kernel
theorem dX5_stepCount_1 : decode cX5_stepCount 1 = .ok (.getfield 22, 3) := by decide +kernel
theorem dX5_stepCount_4 : decode cX5_stepCount 4 = .ok (.ireturn, 1) := by decide +kernel
theorem dX5_clear_0 : decode cX5_clear 0 = .ok (.aload_n 0, 1) := by decide +kernel
theorem dX5_clear_1 : decode cX5_clear 1 = .ok (.iconst 0, 1) := by decide +kernel
theorem dX5_clear_2 : decode cX5_clear 2 = .ok (.putfield 18, 3) := by decide +kernel
theorem dX5_clear_5 : decode cX5_clear 5 = .ok (.return_, 1) := by decide +kernel
theorem dX5_sizeOf_0 : decode cX5_sizeOf 0 = .ok (.iconst 0, 1) := by decide +kernel
theorem dX5_sizeOf_1 : decode cX5_sizeOf 1 = .ok (.istore_n 2, 1) := by decide +kernel
theorem dX5_sizeOf_2 : decode cX5_sizeOf 2 = .ok (.lload_n 0, 1) := by decide +kernel
theorem dX5_sizeOf_3 : decode cX5_sizeOf 3 = .ok (.lstore_n 3, 1) := by decide +kernel
theorem dX5_sizeOf_4 : decode cX5_sizeOf 4 = .ok (.iload_n 2, 1) := by decide +kernel
theorem dX5_sizeOf_5 : decode cX5_sizeOf 5 = .ok (.bipush 8, 2) := by decide +kernel
theorem dX5_sizeOf_7 : decode cX5_sizeOf 7 = .ok (.if_icmp .ge 48, 3) := by decide +kernel
theorem dX5_sizeOf_10 : decode cX5_sizeOf 10 = .ok (.lload_n 3, 1) := by decide +kernel
theorem dX5_sizeOf_11 : decode cX5_sizeOf 11 = .ok (.ldc2_w 25, 3) := by decide +kernel
theorem dX5_sizeOf_14 : decode cX5_sizeOf 14 = .ok (.land, 1) := by decide +kernel
theorem dX5_sizeOf_15 : decode cX5_sizeOf 15 = .ok (.lconst 0, 1) := by decide +kernel
theorem dX5_sizeOf_16 : decode cX5_sizeOf 16 = .ok (.lcmp, 1) := by decide +kernel
theorem dX5_sizeOf_17 : decode cX5_sizeOf 17 = .ok (.ifCond .eq 38, 3) := by decide +kernel
theorem dX5_sizeOf_20 : decode cX5_sizeOf 20 = .ok (.lload_n 3, 1) := by decide +kernel
theorem dX5_sizeOf_21 : decode cX5_sizeOf 21 = .ok (.ldc2_w 25, 3) := by decide +kernel
theorem dX5_sizeOf_24 : decode cX5_sizeOf 24 = .ok (.land, 1) := by decide +kernel
theorem dX5_sizeOf_25 : decode cX5_sizeOf 25 = .ok (.l2i, 1) := by decide +kernel
theorem dX5_sizeOf_26 : decode cX5_sizeOf 26 = .ok (.istore 5, 2) := by decide +kernel
theorem dX5_sizeOf_28 : decode cX5_sizeOf 28 = .ok (.iload 5, 2) := by decide +kernel
theorem dX5_sizeOf_30 : decode cX5_sizeOf 30 = .ok (.bipush 33, 2) := by decide +kernel
theorem dX5_sizeOf_32 : decode cX5_sizeOf 32 = .ok (.if_icmp .lt 10, 3) := by decide +kernel
theorem dX5_sizeOf_35 : decode cX5_sizeOf 35 = .ok (.iload 5, 2) := by decide +kernel
theorem dX5_sizeOf_37 : decode cX5_sizeOf 37 = .ok (.bipush 126, 2) := by decide +kernel
theorem dX5_sizeOf_39 : decode cX5_sizeOf 39 = .ok (.if_icmp .le 5, 3) := by decide +kernel
theorem dX5_sizeOf_42 : decode cX5_sizeOf 42 = .ok (.iconst 0, 1) := by decide +kernel
theorem dX5_sizeOf_43 : decode cX5_sizeOf 43 = .ok (.ireturn, 1) := by decide +kernel
theorem dX5_sizeOf_44 : decode cX5_sizeOf 44 = .ok (.iinc 2 1, 3) := by decide +kernel
theorem dX5_sizeOf_47 : decode cX5_sizeOf 47 = .ok (.lload_n 3, 1) := by decide +kernel
theorem dX5_sizeOf_48 : decode cX5_sizeOf 48 = .ok (.bipush 8, 2) := by decide +kernel
theorem dX5_sizeOf_50 : decode cX5_sizeOf 50 = .ok (.lushr, 1) := by decide +kernel
theorem dX5_sizeOf_51 : decode cX5_sizeOf 51 = .ok (.lstore_n 3, 1) := by decide +kernel
theorem dX5_sizeOf_52 : decode cX5_sizeOf 52 = .ok (.goto (-48), 3) := by decide +kernel
theorem dX5_sizeOf_55 : decode cX5_sizeOf 55 = .ok (.lload_n 3, 1) := by decide +kernel
theorem dX5_sizeOf_56 : decode cX5_sizeOf 56 = .ok (.lconst 0, 1) := by decide +kernel
theorem dX5_sizeOf_57 : decode cX5_sizeOf 57 = .ok (.lcmp, 1) := by decide +kernel
theorem dX5_sizeOf_58 : decode cX5_sizeOf 58 = .ok (.ifCond .ne 7, 3) := by decide +kernel
theorem dX5_sizeOf_61 : decode cX5_sizeOf 61 = .ok (.iload_n 2, 1) := by decide +kernel
theorem dX5_sizeOf_62 : decode cX5_sizeOf 62 = .ok (.goto 4, 3) := by decide +kernel
theorem dX5_sizeOf_65 : decode cX5_sizeOf 65 = .ok (.iconst 0, 1) := by decide +kernel
theorem dX5_sizeOf_66 : decode cX5_sizeOf 66 = .ok (.ireturn, 1) := by decide +kernel
theorem dX5_hasRoomFor_0 : decode cX5_hasRoomFor 0 = .ok (.aload_n 0, 1) := by decide +kernel
theorem dX5_hasRoomFor_1 : decode cX5_hasRoomFor 1 = .ok (.getfield 18, 3) := by decide +kernel
theorem dX5_hasRoomFor_4 : decode cX5_hasRoomFor 4 = .ok (.iload_n 1, 1) := by decide +kernel
theorem dX5_hasRoomFor_5 : decode cX5_hasRoomFor 5 = .ok (.iadd, 1) := by decide +kernel
theorem dX5_hasRoomFor_6 : decode cX5_hasRoomFor 6 = .ok (.bipush 64, 2) := by decide +kernel
theorem dX5_hasRoomFor_8 : decode cX5_hasRoomFor 8 = .ok (.if_icmp .gt 7, 3) := by decide +kernel
theorem dX5_hasRoomFor_11 : decode cX5_hasRoomFor 11 = .ok (.iconst 1, 1) := by decide +kernel
theorem dX5_hasRoomFor_12 : decode cX5_hasRoomFor 12 = .ok (.goto 4, 3) := by decide +kernel
theorem dX5_hasRoomFor_15 : decode cX5_hasRoomFor 15 = .ok (.iconst 0, 1) := by decide +kernel
theorem dX5_hasRoomFor_16 : decode cX5_hasRoomFor 16 = .ok (.ireturn, 1) := by decide +kernel
theorem dX5_append_0 : decode cX5_append 0 = .ok (.lload_n 1, 1) := by decide +kernel
theorem dX5_append_1 : decode cX5_append 1 = .ok (.lstore 4, 2) := by decide +kernel
theorem dX5_append_3 : decode cX5_append 3 = .ok (.aload_n 0, 1) := by decide +kernel
theorem dX5_append_4 : decode cX5_append 4 = .ok (.getfield 18, 3) := by decide +kernel
theorem dX5_append_7 : decode cX5_append 7 = .ok (.iload_n 3, 1) := by decide +kernel
theorem dX5_append_8 : decode cX5_append 8 = .ok (.iadd, 1) := by decide +kernel
theorem dX5_append_9 : decode cX5_append 9 = .ok (.iconst 1, 1) := by decide +kernel
theorem dX5_append_10 : decode cX5_append 10 = .ok (.isub, 1) := by decide +kernel
theorem dX5_append_11 : decode cX5_append 11 = .ok (.istore 6, 2) := by decide +kernel
theorem dX5_append_13 : decode cX5_append 13 = .ok (.iload 6, 2) := by decide +kernel
theorem dX5_append_15 : decode cX5_append 15 = .ok (.aload_n 0, 1) := by decide +kernel
theorem dX5_append_16 : decode cX5_append 16 = .ok (.getfield 18, 3) := by decide +kernel
theorem dX5_append_19 : decode cX5_append 19 = .ok (.if_icmp .lt 42, 3) := by decide +kernel
theorem dX5_append_22 : decode cX5_append 22 = .ok (.iload 6, 2) := by decide +kernel
theorem dX5_append_24 : decode cX5_append 24 = .ok (.ifCond .lt 24, 3) := by decide +kernel
theorem dX5_append_27 : decode cX5_append 27 = .ok (.iload 6, 2) := by decide +kernel
theorem dX5_append_29 : decode cX5_append 29 = .ok (.bipush 64, 2) := by decide +kernel
theorem dX5_append_31 : decode cX5_append 31 = .ok (.if_icmp .ge 17, 3) := by decide +kernel
theorem dX5_append_34 : decode cX5_append 34 = .ok (.aload_n 0, 1) := by decide +kernel
theorem dX5_append_35 : decode cX5_append 35 = .ok (.getfield 11, 3) := by decide +kernel
theorem dX5_append_38 : decode cX5_append 38 = .ok (.iload 6, 2) := by decide +kernel
theorem dX5_append_40 : decode cX5_append 40 = .ok (.lload 4, 2) := by decide +kernel
theorem dX5_append_42 : decode cX5_append 42 = .ok (.ldc2_w 25, 3) := by decide +kernel
theorem dX5_append_45 : decode cX5_append 45 = .ok (.land, 1) := by decide +kernel
theorem dX5_append_46 : decode cX5_append 46 = .ok (.l2i, 1) := by decide +kernel
theorem dX5_append_47 : decode cX5_append 47 = .ok (.iastore, 1) := by decide +kernel
theorem dX5_append_48 : decode cX5_append 48 = .ok (.lload 4, 2) := by decide +kernel
theorem dX5_append_50 : decode cX5_append 50 = .ok (.bipush 8, 2) := by decide +kernel
theorem dX5_append_52 : decode cX5_append 52 = .ok (.lushr, 1) := by decide +kernel
theorem dX5_append_53 : decode cX5_append 53 = .ok (.lstore 4, 2) := by decide +kernel
theorem dX5_append_55 : decode cX5_append 55 = .ok (.iinc 6 (-1), 3) := by decide +kernel
theorem dX5_append_58 : decode cX5_append 58 = .ok (.goto (-45), 3) := by decide +kernel
theorem dX5_append_61 : decode cX5_append 61 = .ok (.aload_n 0, 1) := by decide +kernel
theorem dX5_append_62 : decode cX5_append 62 = .ok (.dup, 1) := by decide +kernel
theorem dX5_append_63 : decode cX5_append 63 = .ok (.getfield 18, 3) := by decide +kernel
theorem dX5_append_66 : decode cX5_append 66 = .ok (.iload_n 3, 1) := by decide +kernel
theorem dX5_append_67 : decode cX5_append 67 = .ok (.iadd, 1) := by decide +kernel
theorem dX5_append_68 : decode cX5_append 68 = .ok (.putfield 18, 3) := by decide +kernel
theorem dX5_append_71 : decode cX5_append 71 = .ok (.return_, 1) := by decide +kernel
theorem dX5_scan_0 : decode cX5_scan 0 = .ok (.aload_n 0, 1) := by decide +kernel
theorem dX5_scan_1 : decode cX5_scan 1 = .ok (.iconst 0, 1) := by decide +kernel
theorem dX5_scan_2 : decode cX5_scan 2 = .ok (.putfield 27, 3) := by decide +kernel
theorem dX5_scan_5 : decode cX5_scan 5 = .ok (.aload_n 0, 1) := by decide +kernel
theorem dX5_scan_6 : decode cX5_scan 6 = .ok (.iconst 0, 1) := by decide +kernel
theorem dX5_scan_7 : decode cX5_scan 7 = .ok (.putfield 22, 3) := by decide +kernel
theorem dX5_scan_10 : decode cX5_scan 10 = .ok (.aload_n 0, 1) := by decide +kernel
theorem dX5_scan_11 : decode cX5_scan 11 = .ok (.aload_n 0, 1) := by decide +kernel
theorem dX5_scan_12 : decode cX5_scan 12 = .ok (.bipush 19, 2) := by decide +kernel
theorem dX5_scan_14 : decode cX5_scan 14 = .ok (.bipush 44, 2) := by decide +kernel
theorem dX5_scan_16 : decode cX5_scan 16 = .ok (.invokevirtual 30, 3) := by decide +kernel
theorem dX5_scan_19 : decode cX5_scan 19 = .ok (.putfield 34, 3) := by decide +kernel
theorem dX5_scan_22 : decode cX5_scan 22 = .ok (.aload_n 0, 1) := by decide +kernel
theorem dX5_scan_23 : decode cX5_scan 23 = .ok (.getfield 34, 3) := by decide +kernel
theorem dX5_scan_26 : decode cX5_scan 26 = .ok (.iconst (-1), 1) := by decide +kernel
theorem dX5_scan_27 : decode cX5_scan 27 = .ok (.if_icmp .ne 8, 3) := by decide +kernel
theorem dX5_scan_30 : decode cX5_scan 30 = .ok (.aload_n 0, 1) := by decide +kernel
theorem dX5_scan_31 : decode cX5_scan 31 = .ok (.getfield 27, 3) := by decide +kernel
theorem dX5_scan_34 : decode cX5_scan 34 = .ok (.ireturn, 1) := by decide +kernel
theorem dX5_scan_35 : decode cX5_scan 35 = .ok (.aload_n 0, 1) := by decide +kernel
theorem dX5_scan_36 : decode cX5_scan 36 = .ok (.aload_n 0, 1) := by decide +kernel
theorem dX5_scan_37 : decode cX5_scan 37 = .ok (.bipush 11, 2) := by decide +kernel
theorem dX5_scan_39 : decode cX5_scan 39 = .ok (.bipush 58, 2) := by decide +kernel
theorem dX5_scan_41 : decode cX5_scan 41 = .ok (.invokevirtual 30, 3) := by decide +kernel
theorem dX5_scan_44 : decode cX5_scan 44 = .ok (.putfield 37, 3) := by decide +kernel
theorem dX5_scan_47 : decode cX5_scan 47 = .ok (.aload_n 0, 1) := by decide +kernel
theorem dX5_scan_48 : decode cX5_scan 48 = .ok (.getfield 37, 3) := by decide +kernel
theorem dX5_scan_51 : decode cX5_scan 51 = .ok (.iconst (-1), 1) := by decide +kernel
theorem dX5_scan_52 : decode cX5_scan 52 = .ok (.if_icmp .ne 8, 3) := by decide +kernel
theorem dX5_scan_55 : decode cX5_scan 55 = .ok (.aload_n 0, 1) := by decide +kernel
theorem dX5_scan_56 : decode cX5_scan 56 = .ok (.getfield 27, 3) := by decide +kernel
theorem dX5_scan_59 : decode cX5_scan 59 = .ok (.ireturn, 1) := by decide +kernel
theorem dX5_scan_60 : decode cX5_scan 60 = .ok (.aload_n 0, 1) := by decide +kernel
theorem dX5_scan_61 : decode cX5_scan 61 = .ok (.invokevirtual 40, 3) := by decide +kernel
theorem dX5_scan_64 : decode cX5_scan 64 = .ok (.ifCond .eq 8, 3) := by decide +kernel
theorem dX5_scan_67 : decode cX5_scan 67 = .ok (.bipush (-6), 2) := by decide +kernel
theorem dX5_scan_69 : decode cX5_scan 69 = .ok (.goto 7, 3) := by decide +kernel
theorem dX5_scan_72 : decode cX5_scan 72 = .ok (.aload_n 0, 1) := by decide +kernel
theorem dX5_scan_73 : decode cX5_scan 73 = .ok (.getfield 27, 3) := by decide +kernel
theorem dX5_scan_76 : decode cX5_scan 76 = .ok (.ireturn, 1) := by decide +kernel
theorem dX5_scanNumber_0 : decode cX5_scanNumber 0 = .ok (.aload_n 0, 1) := by decide +kernel
theorem dX5_scanNumber_1 : decode cX5_scanNumber 1 = .ok (.aload_n 0, 1) := by decide +kernel
theorem dX5_scanNumber_2 : decode cX5_scanNumber 2 = .ok (.getfield 27, 3) := by decide +kernel
theorem dX5_scanNumber_5 : decode cX5_scanNumber 5 = .ok (.invokevirtual 44, 3) := by decide +kernel
theorem dX5_scanNumber_8 : decode cX5_scanNumber 8 = .ok (.istore_n 3, 1) := by decide +kernel
theorem dX5_scanNumber_9 : decode cX5_scanNumber 9 = .ok (.iload_n 3, 1) := by decide +kernel
theorem dX5_scanNumber_10 : decode cX5_scanNumber 10 = .ok (.iconst (-1), 1) := by decide +kernel
theorem dX5_scanNumber_11 : decode cX5_scanNumber 11 = .ok (.if_icmp .ne 5, 3) := by decide +kernel
theorem dX5_scanNumber_14 : decode cX5_scanNumber 14 = .ok (.iconst (-1), 1) := by decide +kernel
theorem dX5_scanNumber_15 : decode cX5_scanNumber 15 = .ok (.ireturn, 1) := by decide +kernel
theorem dX5_scanNumber_16 : decode cX5_scanNumber 16 = .ok (.aload_n 0, 1) := by decide +kernel
theorem dX5_scanNumber_17 : decode cX5_scanNumber 17 = .ok (.dup, 1) := by decide +kernel
theorem dX5_scanNumber_18 : decode cX5_scanNumber 18 = .ok (.getfield 27, 3) := by decide +kernel
theorem dX5_scanNumber_21 : decode cX5_scanNumber 21 = .ok (.iconst 1, 1) := by decide +kernel
theorem dX5_scanNumber_22 : decode cX5_scanNumber 22 = .ok (.iadd, 1) := by decide +kernel
theorem dX5_scanNumber_23 : decode cX5_scanNumber 23 = .ok (.putfield 27, 3) := by decide +kernel
theorem dX5_scanNumber_26 : decode cX5_scanNumber 26 = .ok (.aload_n 0, 1) := by decide +kernel
theorem dX5_scanNumber_27 : decode cX5_scanNumber 27 = .ok (.aload_n 0, 1) := by decide +kernel
theorem dX5_scanNumber_28 : decode cX5_scanNumber 28 = .ok (.getfield 27, 3) := by decide +kernel
theorem dX5_scanNumber_31 : decode cX5_scanNumber 31 = .ok (.invokevirtual 44, 3) := by decide +kernel
theorem dX5_scanNumber_34 : decode cX5_scanNumber 34 = .ok (.istore 4, 2) := by decide +kernel
theorem dX5_scanNumber_36 : decode cX5_scanNumber 36 = .ok (.iload 4, 2) := by decide +kernel
theorem dX5_scanNumber_38 : decode cX5_scanNumber 38 = .ok (.iconst (-1), 1) := by decide +kernel
theorem dX5_scanNumber_39 : decode cX5_scanNumber 39 = .ok (.if_icmp .eq 36, 3) := by decide +kernel
theorem dX5_scanNumber_42 : decode cX5_scanNumber 42 = .ok (.iload_n 3, 1) := by decide +kernel
theorem dX5_scanNumber_43 : decode cX5_scanNumber 43 = .ok (.ifCond .le 32, 3) := by decide +kernel
theorem dX5_scanNumber_46 : decode cX5_scanNumber 46 = .ok (.iload_n 3, 1) := by decide +kernel
theorem dX5_scanNumber_47 : decode cX5_scanNumber 47 = .ok (.bipush 10, 2) := by decide +kernel
theorem dX5_scanNumber_49 : decode cX5_scanNumber 49 = .ok (.imul, 1) := by decide +kernel
theorem dX5_scanNumber_50 : decode cX5_scanNumber 50 = .ok (.iload 4, 2) := by decide +kernel
theorem dX5_scanNumber_52 : decode cX5_scanNumber 52 = .ok (.iadd, 1) := by decide +kernel
theorem dX5_scanNumber_53 : decode cX5_scanNumber 53 = .ok (.iload_n 1, 1) := by decide +kernel
theorem dX5_scanNumber_54 : decode cX5_scanNumber 54 = .ok (.if_icmp .gt 21, 3) := by decide +kernel
theorem dX5_scanNumber_57 : decode cX5_scanNumber 57 = .ok (.iload_n 3, 1) := by decide +kernel
theorem dX5_scanNumber_58 : decode cX5_scanNumber 58 = .ok (.bipush 10, 2) := by decide +kernel
theorem dX5_scanNumber_60 : decode cX5_scanNumber 60 = .ok (.imul, 1) := by decide +kernel
theorem dX5_scanNumber_61 : decode cX5_scanNumber 61 = .ok (.iload 4, 2) := by decide +kernel
theorem dX5_scanNumber_63 : decode cX5_scanNumber 63 = .ok (.iadd, 1) := by decide +kernel
theorem dX5_scanNumber_64 : decode cX5_scanNumber 64 = .ok (.istore_n 3, 1) := by decide +kernel
theorem dX5_scanNumber_65 : decode cX5_scanNumber 65 = .ok (.aload_n 0, 1) := by decide +kernel
theorem dX5_scanNumber_66 : decode cX5_scanNumber 66 = .ok (.dup, 1) := by decide +kernel
theorem dX5_scanNumber_67 : decode cX5_scanNumber 67 = .ok (.getfield 27, 3) := by decide +kernel
theorem dX5_scanNumber_70 : decode cX5_scanNumber 70 = .ok (.iconst 1, 1) := by decide +kernel
theorem dX5_scanNumber_71 : decode cX5_scanNumber 71 = .ok (.iadd, 1) := by decide +kernel
theorem dX5_scanNumber_72 : decode cX5_scanNumber 72 = .ok (.putfield 27, 3) := by decide +kernel
theorem dX5_scanNumber_75 : decode cX5_scanNumber 75 = .ok (.aload_n 0, 1) := by decide +kernel
theorem dX5_scanNumber_76 : decode cX5_scanNumber 76 = .ok (.aload_n 0, 1) := by decide +kernel
theorem dX5_scanNumber_77 : decode cX5_scanNumber 77 = .ok (.getfield 27, 3) := by decide +kernel
theorem dX5_scanNumber_80 : decode cX5_scanNumber 80 = .ok (.invokevirtual 48, 3) := by decide +kernel
theorem dX5_scanNumber_83 : decode cX5_scanNumber 83 = .ok (.iload_n 2, 1) := by decide +kernel
theorem dX5_scanNumber_84 : decode cX5_scanNumber 84 = .ok (.if_icmp .eq 5, 3) := by decide +kernel
theorem dX5_scanNumber_87 : decode cX5_scanNumber 87 = .ok (.iconst (-1), 1) := by decide +kernel
theorem dX5_scanNumber_88 : decode cX5_scanNumber 88 = .ok (.ireturn, 1) := by decide +kernel
theorem dX5_scanNumber_89 : decode cX5_scanNumber 89 = .ok (.aload_n 0, 1) := by decide +kernel
theorem dX5_scanNumber_90 : decode cX5_scanNumber 90 = .ok (.dup, 1) := by decide +kernel
theorem dX5_scanNumber_91 : decode cX5_scanNumber 91 = .ok (.getfield 27, 3) := by decide +kernel
theorem dX5_scanNumber_94 : decode cX5_scanNumber 94 = .ok (.iconst 1, 1) := by decide +kernel
theorem dX5_scanNumber_95 : decode cX5_scanNumber 95 = .ok (.iadd, 1) := by decide +kernel
theorem dX5_scanNumber_96 : decode cX5_scanNumber 96 = .ok (.putfield 27, 3) := by decide +kernel
theorem dX5_scanNumber_99 : decode cX5_scanNumber 99 = .ok (.iload_n 3, 1) := by decide +kernel
theorem dX5_scanNumber_100 : decode cX5_scanNumber 100 = .ok (.ireturn, 1) := by decide +kernel
theorem dX5_scanSteps_0 : decode cX5_scanSteps 0 = .ok (.aload_n 0, 1) := by decide +kernel
theorem dX5_scanSteps_1 : decode cX5_scanSteps 1 = .ok (.getfield 27, 3) := by decide +kernel
theorem dX5_scanSteps_4 : decode cX5_scanSteps 4 = .ok (.aload_n 0, 1) := by decide +kernel
theorem dX5_scanSteps_5 : decode cX5_scanSteps 5 = .ok (.getfield 18, 3) := by decide +kernel
theorem dX5_scanSteps_8 : decode cX5_scanSteps 8 = .ok (.if_icmp .ge 71, 3) := by decide +kernel
theorem dX5_scanSteps_11 : decode cX5_scanSteps 11 = .ok (.aload_n 0, 1) := by decide +kernel
theorem dX5_scanSteps_12 : decode cX5_scanSteps 12 = .ok (.aload_n 0, 1) := by decide +kernel
theorem dX5_scanSteps_13 : decode cX5_scanSteps 13 = .ok (.getfield 27, 3) := by decide +kernel
theorem dX5_scanSteps_16 : decode cX5_scanSteps 16 = .ok (.invokevirtual 51, 3) := by decide +kernel
theorem dX5_scanSteps_19 : decode cX5_scanSteps 19 = .ok (.istore_n 1, 1) := by decide +kernel
theorem dX5_scanSteps_20 : decode cX5_scanSteps 20 = .ok (.iload_n 1, 1) := by decide +kernel
theorem dX5_scanSteps_21 : decode cX5_scanSteps 21 = .ok (.iconst (-1), 1) := by decide +kernel
theorem dX5_scanSteps_22 : decode cX5_scanSteps 22 = .ok (.if_icmp .ne 5, 3) := by decide +kernel
theorem dX5_scanSteps_25 : decode cX5_scanSteps 25 = .ok (.iconst 0, 1) := by decide +kernel
theorem dX5_scanSteps_26 : decode cX5_scanSteps 26 = .ok (.ireturn, 1) := by decide +kernel
theorem dX5_scanSteps_27 : decode cX5_scanSteps 27 = .ok (.aload_n 0, 1) := by decide +kernel
theorem dX5_scanSteps_28 : decode cX5_scanSteps 28 = .ok (.dup, 1) := by decide +kernel
theorem dX5_scanSteps_29 : decode cX5_scanSteps 29 = .ok (.getfield 27, 3) := by decide +kernel
theorem dX5_scanSteps_32 : decode cX5_scanSteps 32 = .ok (.iconst 1, 1) := by decide +kernel
theorem dX5_scanSteps_33 : decode cX5_scanSteps 33 = .ok (.iadd, 1) := by decide +kernel
theorem dX5_scanSteps_34 : decode cX5_scanSteps 34 = .ok (.putfield 27, 3) := by decide +kernel
theorem dX5_scanSteps_37 : decode cX5_scanSteps 37 = .ok (.iconst 1, 1) := by decide +kernel
theorem dX5_scanSteps_38 : decode cX5_scanSteps 38 = .ok (.istore_n 2, 1) := by decide +kernel
theorem dX5_scanSteps_39 : decode cX5_scanSteps 39 = .ok (.aload_n 0, 1) := by decide +kernel
theorem dX5_scanSteps_40 : decode cX5_scanSteps 40 = .ok (.aload_n 0, 1) := by decide +kernel
theorem dX5_scanSteps_41 : decode cX5_scanSteps 41 = .ok (.getfield 27, 3) := by decide +kernel
theorem dX5_scanSteps_44 : decode cX5_scanSteps 44 = .ok (.invokevirtual 44, 3) := by decide +kernel
theorem dX5_scanSteps_47 : decode cX5_scanSteps 47 = .ok (.iconst 2, 1) := by decide +kernel
theorem dX5_scanSteps_48 : decode cX5_scanSteps 48 = .ok (.if_icmp .lt 22, 3) := by decide +kernel
theorem dX5_scanSteps_51 : decode cX5_scanSteps 51 = .ok (.aload_n 0, 1) := by decide +kernel
theorem dX5_scanSteps_52 : decode cX5_scanSteps 52 = .ok (.aload_n 0, 1) := by decide +kernel
theorem dX5_scanSteps_53 : decode cX5_scanSteps 53 = .ok (.getfield 27, 3) := by decide +kernel
theorem dX5_scanSteps_56 : decode cX5_scanSteps 56 = .ok (.invokevirtual 44, 3) := by decide +kernel
theorem dX5_scanSteps_59 : decode cX5_scanSteps 59 = .ok (.istore_n 2, 1) := by decide +kernel
theorem dX5_scanSteps_60 : decode cX5_scanSteps 60 = .ok (.aload_n 0, 1) := by decide +kernel
theorem dX5_scanSteps_61 : decode cX5_scanSteps 61 = .ok (.dup, 1) := by decide +kernel
theorem dX5_scanSteps_62 : decode cX5_scanSteps 62 = .ok (.getfield 27, 3) := by decide +kernel
theorem dX5_scanSteps_65 : decode cX5_scanSteps 65 = .ok (.iconst 1, 1) := by decide +kernel
theorem dX5_scanSteps_66 : decode cX5_scanSteps 66 = .ok (.iadd, 1) := by decide +kernel
theorem dX5_scanSteps_67 : decode cX5_scanSteps 67 = .ok (.putfield 27, 3) := by decide +kernel
theorem dX5_scanSteps_70 : decode cX5_scanSteps 70 = .ok (.aload_n 0, 1) := by decide +kernel
theorem dX5_scanSteps_71 : decode cX5_scanSteps 71 = .ok (.iload_n 1, 1) := by decide +kernel
theorem dX5_scanSteps_72 : decode cX5_scanSteps 72 = .ok (.iload_n 2, 1) := by decide +kernel
theorem dX5_scanSteps_73 : decode cX5_scanSteps 73 = .ok (.invokevirtual 54, 3) := by decide +kernel
theorem dX5_scanSteps_76 : decode cX5_scanSteps 76 = .ok (.goto (-76), 3) := by decide +kernel
theorem dX5_scanSteps_79 : decode cX5_scanSteps 79 = .ok (.aload_n 0, 1) := by decide +kernel
theorem dX5_scanSteps_80 : decode cX5_scanSteps 80 = .ok (.getfield 22, 3) := by decide +kernel
theorem dX5_scanSteps_83 : decode cX5_scanSteps 83 = .ok (.ifCond .le 7, 3) := by decide +kernel
theorem dX5_scanSteps_86 : decode cX5_scanSteps 86 = .ok (.iconst 1, 1) := by decide +kernel
theorem dX5_scanSteps_87 : decode cX5_scanSteps 87 = .ok (.goto 4, 3) := by decide +kernel
theorem dX5_scanSteps_90 : decode cX5_scanSteps 90 = .ok (.iconst 0, 1) := by decide +kernel
theorem dX5_scanSteps_91 : decode cX5_scanSteps 91 = .ok (.ireturn, 1) := by decide +kernel
theorem dX5_addSteps_0 : decode cX5_addSteps 0 = .ok (.iconst 0, 1) := by decide +kernel
theorem dX5_addSteps_1 : decode cX5_addSteps 1 = .ok (.istore_n 3, 1) := by decide +kernel
theorem dX5_addSteps_2 : decode cX5_addSteps 2 = .ok (.iload_n 3, 1) := by decide +kernel
theorem dX5_addSteps_3 : decode cX5_addSteps 3 = .ok (.iload_n 2, 1) := by decide +kernel
theorem dX5_addSteps_4 : decode cX5_addSteps 4 = .ok (.if_icmp .ge 46, 3) := by decide +kernel
theorem dX5_addSteps_7 : decode cX5_addSteps 7 = .ok (.aload_n 0, 1) := by decide +kernel
theorem dX5_addSteps_8 : decode cX5_addSteps 8 = .ok (.getfield 22, 3) := by decide +kernel
theorem dX5_addSteps_11 : decode cX5_addSteps 11 = .ok (.ifCond .lt 23, 3) := by decide +kernel
theorem dX5_addSteps_14 : decode cX5_addSteps 14 = .ok (.aload_n 0, 1) := by decide +kernel
theorem dX5_addSteps_15 : decode cX5_addSteps 15 = .ok (.getfield 22, 3) := by decide +kernel
theorem dX5_addSteps_18 : decode cX5_addSteps 18 = .ok (.sipush 150, 3) := by decide +kernel
theorem dX5_addSteps_21 : decode cX5_addSteps 21 = .ok (.if_icmp .ge 13, 3) := by decide +kernel
theorem dX5_addSteps_24 : decode cX5_addSteps 24 = .ok (.aload_n 0, 1) := by decide +kernel
theorem dX5_addSteps_25 : decode cX5_addSteps 25 = .ok (.getfield 15, 3) := by decide +kernel
theorem dX5_addSteps_28 : decode cX5_addSteps 28 = .ok (.aload_n 0, 1) := by decide +kernel
theorem dX5_addSteps_29 : decode cX5_addSteps 29 = .ok (.getfield 22, 3) := by decide +kernel
theorem dX5_addSteps_32 : decode cX5_addSteps 32 = .ok (.iload_n 1, 1) := by decide +kernel
theorem dX5_addSteps_33 : decode cX5_addSteps 33 = .ok (.iastore, 1) := by decide +kernel
theorem dX5_addSteps_34 : decode cX5_addSteps 34 = .ok (.aload_n 0, 1) := by decide +kernel
theorem dX5_addSteps_35 : decode cX5_addSteps 35 = .ok (.dup, 1) := by decide +kernel
theorem dX5_addSteps_36 : decode cX5_addSteps 36 = .ok (.getfield 22, 3) := by decide +kernel
theorem dX5_addSteps_39 : decode cX5_addSteps 39 = .ok (.iconst 1, 1) := by decide +kernel
theorem dX5_addSteps_40 : decode cX5_addSteps 40 = .ok (.iadd, 1) := by decide +kernel
theorem dX5_addSteps_41 : decode cX5_addSteps 41 = .ok (.putfield 22, 3) := by decide +kernel
theorem dX5_addSteps_44 : decode cX5_addSteps 44 = .ok (.iinc 3 1, 3) := by decide +kernel
theorem dX5_addSteps_47 : decode cX5_addSteps 47 = .ok (.goto (-45), 3) := by decide +kernel
theorem dX5_addSteps_50 : decode cX5_addSteps 50 = .ok (.return_, 1) := by decide +kernel
theorem dX5_signAt_0 : decode cX5_signAt 0 = .ok (.iload_n 1, 1) := by decide +kernel
theorem dX5_signAt_1 : decode cX5_signAt 1 = .ok (.ifCond .lt 26, 3) := by decide +kernel
theorem dX5_signAt_4 : decode cX5_signAt 4 = .ok (.iload_n 1, 1) := by decide +kernel
theorem dX5_signAt_5 : decode cX5_signAt 5 = .ok (.aload_n 0, 1) := by decide +kernel
theorem dX5_signAt_6 : decode cX5_signAt 6 = .ok (.getfield 18, 3) := by decide +kernel
theorem dX5_signAt_9 : decode cX5_signAt 9 = .ok (.if_icmp .ge 18, 3) := by decide +kernel
theorem dX5_signAt_12 : decode cX5_signAt 12 = .ok (.iload_n 1, 1) := by decide +kernel
theorem dX5_signAt_13 : decode cX5_signAt 13 = .ok (.bipush 64, 2) := by decide +kernel
theorem dX5_signAt_15 : decode cX5_signAt 15 = .ok (.if_icmp .ge 12, 3) := by decide +kernel
theorem dX5_signAt_18 : decode cX5_signAt 18 = .ok (.aload_n 0, 1) := by decide +kernel
theorem dX5_signAt_19 : decode cX5_signAt 19 = .ok (.getfield 11, 3) := by decide +kernel
theorem dX5_signAt_22 : decode cX5_signAt 22 = .ok (.iload_n 1, 1) := by decide +kernel
theorem dX5_signAt_23 : decode cX5_signAt 23 = .ok (.iaload, 1) := by decide +kernel
theorem dX5_signAt_24 : decode cX5_signAt 24 = .ok (.goto 4, 3) := by decide +kernel
theorem dX5_signAt_27 : decode cX5_signAt 27 = .ok (.iconst 0, 1) := by decide +kernel
theorem dX5_signAt_28 : decode cX5_signAt 28 = .ok (.ireturn, 1) := by decide +kernel
theorem dX5_digitAt_0 : decode cX5_digitAt 0 = .ok (.aload_n 0, 1) := by decide +kernel
theorem dX5_digitAt_1 : decode cX5_digitAt 1 = .ok (.iload_n 1, 1) := by decide +kernel
theorem dX5_digitAt_2 : decode cX5_digitAt 2 = .ok (.invokevirtual 48, 3) := by decide +kernel
theorem dX5_digitAt_5 : decode cX5_digitAt 5 = .ok (.istore_n 2, 1) := by decide +kernel
theorem dX5_digitAt_6 : decode cX5_digitAt 6 = .ok (.iload_n 2, 1) := by decide +kernel
theorem dX5_digitAt_7 : decode cX5_digitAt 7 = .ok (.bipush 48, 2) := by decide +kernel
theorem dX5_digitAt_9 : decode cX5_digitAt 9 = .ok (.if_icmp .lt 16, 3) := by decide +kernel
theorem dX5_digitAt_12 : decode cX5_digitAt 12 = .ok (.iload_n 2, 1) := by decide +kernel
theorem dX5_digitAt_13 : decode cX5_digitAt 13 = .ok (.bipush 57, 2) := by decide +kernel
theorem dX5_digitAt_15 : decode cX5_digitAt 15 = .ok (.if_icmp .gt 10, 3) := by decide +kernel
theorem dX5_digitAt_18 : decode cX5_digitAt 18 = .ok (.iload_n 2, 1) := by decide +kernel
theorem dX5_digitAt_19 : decode cX5_digitAt 19 = .ok (.bipush 48, 2) := by decide +kernel
theorem dX5_digitAt_21 : decode cX5_digitAt 21 = .ok (.isub, 1) := by decide +kernel
theorem dX5_digitAt_22 : decode cX5_digitAt 22 = .ok (.goto 4, 3) := by decide +kernel
theorem dX5_digitAt_25 : decode cX5_digitAt 25 = .ok (.iconst (-1), 1) := by decide +kernel
theorem dX5_digitAt_26 : decode cX5_digitAt 26 = .ok (.ireturn, 1) := by decide +kernel
theorem dX5_wayAt_0 : decode cX5_wayAt 0 = .ok (.aload_n 0, 1) := by decide +kernel
theorem dX5_wayAt_1 : decode cX5_wayAt 1 = .ok (.iload_n 1, 1) := by decide +kernel
theorem dX5_wayAt_2 : decode cX5_wayAt 2 = .ok (.invokevirtual 48, 3) := by decide +kernel
theorem dX5_wayAt_5 : decode cX5_wayAt 5 = .ok (.lookupswitch 51 #[(100, 49), (108, 47), (114, 43), (117, 45)], 43) := by decide +kernel
theorem dX5_wayAt_48 : decode cX5_wayAt 48 = .ok (.iconst 0, 1) := by decide +kernel
theorem dX5_wayAt_49 : decode cX5_wayAt 49 = .ok (.ireturn, 1) := by decide +kernel
theorem dX5_wayAt_50 : decode cX5_wayAt 50 = .ok (.iconst 1, 1) := by decide +kernel
theorem dX5_wayAt_51 : decode cX5_wayAt 51 = .ok (.ireturn, 1) := by decide +kernel
theorem dX5_wayAt_52 : decode cX5_wayAt 52 = .ok (.iconst 2, 1) := by decide +kernel
theorem dX5_wayAt_53 : decode cX5_wayAt 53 = .ok (.ireturn, 1) := by decide +kernel
theorem dX5_wayAt_54 : decode cX5_wayAt 54 = .ok (.iconst 3, 1) := by decide +kernel
theorem dX5_wayAt_55 : decode cX5_wayAt 55 = .ok (.ireturn, 1) := by decide +kernel
theorem dX5_wayAt_56 : decode cX5_wayAt 56 = .ok (.iconst (-1), 1) := by decide +kernel
theorem dX5_wayAt_57 : decode cX5_wayAt 57 = .ok (.ireturn, 1) := by decide +kernel
theorem dX5_layCourse_0 : decode cX5_layCourse 0 = .ok (.aload_n 0, 1) := by decide +kernel
theorem dX5_layCourse_1 : decode cX5_layCourse 1 = .ok (.getfield 34, 3) := by decide +kernel
theorem dX5_layCourse_4 : decode cX5_layCourse 4 = .ok (.aload_n 0, 1) := by decide +kernel
theorem dX5_layCourse_5 : decode cX5_layCourse 5 = .ok (.getfield 37, 3) := by decide +kernel
theorem dX5_layCourse_8 : decode cX5_layCourse 8 = .ok (.invokestatic 58, 3) := by decide +kernel
theorem dX5_layCourse_11 : decode cX5_layCourse 11 = .ok (.istore_n 2, 1) := by decide +kernel
theorem dX5_layCourse_12 : decode cX5_layCourse 12 = .ok (.aload_n 1, 1) := by decide +kernel
theorem dX5_layCourse_13 : decode cX5_layCourse 13 = .ok (.iload_n 2, 1) := by decide +kernel
theorem dX5_layCourse_14 : decode cX5_layCourse 14 = .ok (.invokevirtual 62, 3) := by decide +kernel
theorem dX5_layCourse_17 : decode cX5_layCourse 17 = .ok (.istore_n 3, 1) := by decide +kernel
theorem dX5_layCourse_18 : decode cX5_layCourse 18 = .ok (.iconst 0, 1) := by decide +kernel
theorem dX5_layCourse_19 : decode cX5_layCourse 19 = .ok (.istore 4, 2) := by decide +kernel
theorem dX5_layCourse_21 : decode cX5_layCourse 21 = .ok (.iload_n 3, 1) := by decide +kernel
theorem dX5_layCourse_22 : decode cX5_layCourse 22 = .ok (.ifCond .eq 44, 3) := by decide +kernel
theorem dX5_layCourse_25 : decode cX5_layCourse 25 = .ok (.iload 4, 2) := by decide +kernel
theorem dX5_layCourse_27 : decode cX5_layCourse 27 = .ok (.aload_n 0, 1) := by decide +kernel
theorem dX5_layCourse_28 : decode cX5_layCourse 28 = .ok (.getfield 22, 3) := by decide +kernel
theorem dX5_layCourse_31 : decode cX5_layCourse 31 = .ok (.if_icmp .ge 35, 3) := by decide +kernel
theorem dX5_layCourse_34 : decode cX5_layCourse 34 = .ok (.iload 4, 2) := by decide +kernel
theorem dX5_layCourse_36 : decode cX5_layCourse 36 = .ok (.sipush 150, 3) := by decide +kernel
theorem dX5_layCourse_39 : decode cX5_layCourse 39 = .ok (.if_icmp .ge 27, 3) := by decide +kernel
theorem dX5_layCourse_42 : decode cX5_layCourse 42 = .ok (.iload_n 2, 1) := by decide +kernel
theorem dX5_layCourse_43 : decode cX5_layCourse 43 = .ok (.aload_n 0, 1) := by decide +kernel
theorem dX5_layCourse_44 : decode cX5_layCourse 44 = .ok (.getfield 15, 3) := by decide +kernel
theorem dX5_layCourse_47 : decode cX5_layCourse 47 = .ok (.iload 4, 2) := by decide +kernel
theorem dX5_layCourse_49 : decode cX5_layCourse 49 = .ok (.iaload, 1) := by decide +kernel
theorem dX5_layCourse_50 : decode cX5_layCourse 50 = .ok (.invokestatic 68, 3) := by decide +kernel
theorem dX5_layCourse_53 : decode cX5_layCourse 53 = .ok (.istore_n 2, 1) := by decide +kernel
theorem dX5_layCourse_54 : decode cX5_layCourse 54 = .ok (.aload_n 1, 1) := by decide +kernel
theorem dX5_layCourse_55 : decode cX5_layCourse 55 = .ok (.iload_n 2, 1) := by decide +kernel
theorem dX5_layCourse_56 : decode cX5_layCourse 56 = .ok (.invokevirtual 62, 3) := by decide +kernel
theorem dX5_layCourse_59 : decode cX5_layCourse 59 = .ok (.istore_n 3, 1) := by decide +kernel
theorem dX5_layCourse_60 : decode cX5_layCourse 60 = .ok (.iinc 4 1, 3) := by decide +kernel
theorem dX5_layCourse_63 : decode cX5_layCourse 63 = .ok (.goto (-42), 3) := by decide +kernel
theorem dX5_layCourse_66 : decode cX5_layCourse 66 = .ok (.iload_n 3, 1) := by decide +kernel
theorem dX5_layCourse_67 : decode cX5_layCourse 67 = .ok (.ireturn, 1) := by decide +kernel
theorem dX6_init_0 : decode cX6_init 0 = .ok (.aload_n 0, 1) := by decide +kernel
theorem dX6_init_1 : decode cX6_init 1 = .ok (.invokespecial 3, 3) := by decide +kernel
theorem dX6_init_4 : decode cX6_init 4 = .ok (.aload_n 0, 1) := by decide +kernel
theorem dX6_init_5 : decode cX6_init 5 = .ok (.new 9, 3) := by decide +kernel
theorem dX6_init_8 : decode cX6_init 8 = .ok (.dup, 1) := by decide +kernel
theorem dX6_init_9 : decode cX6_init 9 = .ok (.invokespecial 11, 3) := by decide +kernel
theorem dX6_init_12 : decode cX6_init 12 = .ok (.putfield 12, 3) := by decide +kernel
theorem dX6_init_15 : decode cX6_init 15 = .ok (.aload_n 0, 1) := by decide +kernel
theorem dX6_init_16 : decode cX6_init 16 = .ok (.new 18, 3) := by decide +kernel
theorem dX6_init_19 : decode cX6_init 19 = .ok (.dup, 1) := by decide +kernel
theorem dX6_init_20 : decode cX6_init 20 = .ok (.invokespecial 20, 3) := by decide +kernel
theorem dX6_init_23 : decode cX6_init 23 = .ok (.putfield 21, 3) := by decide +kernel
theorem dX6_init_26 : decode cX6_init 26 = .ok (.aload_n 0, 1) := by decide +kernel
theorem dX6_init_27 : decode cX6_init 27 = .ok (.iconst (-1), 1) := by decide +kernel
theorem dX6_init_28 : decode cX6_init 28 = .ok (.putfield 25, 3) := by decide +kernel
theorem dX6_init_31 : decode cX6_init 31 = .ok (.return_, 1) := by decide +kernel
theorem dX6_watch_0 : decode cX6_watch 0 = .ok (.aload_n 0, 1) := by decide +kernel
theorem dX6_watch_1 : decode cX6_watch 1 = .ok (.iload_n 1, 1) := by decide +kernel
theorem dX6_watch_2 : decode cX6_watch 2 = .ok (.putfield 25, 3) := by decide +kernel
theorem dX6_watch_5 : decode cX6_watch 5 = .ok (.aload_n 0, 1) := by decide +kernel
theorem dX6_watch_6 : decode cX6_watch 6 = .ok (.iconst 0, 1) := by decide +kernel
theorem dX6_watch_7 : decode cX6_watch 7 = .ok (.putfield 29, 3) := by decide +kernel
theorem dX6_watch_10 : decode cX6_watch 10 = .ok (.return_, 1) := by decide +kernel
theorem dX6_passYear_0 : decode cX6_passYear 0 = .ok (.aload_n 1, 1) := by decide +kernel
theorem dX6_passYear_1 : decode cX6_passYear 1 = .ok (.aload_n 1, 1) := by decide +kernel
theorem dX6_passYear_2 : decode cX6_passYear 2 = .ok (.getfield 33, 3) := by decide +kernel
theorem dX6_passYear_5 : decode cX6_passYear 5 = .ok (.invokevirtual 38, 3) := by decide +kernel
theorem dX6_passYear_8 : decode cX6_passYear 8 = .ok (.istore_n 2, 1) := by decide +kernel
theorem dX6_passYear_9 : decode cX6_passYear 9 = .ok (.aload_n 0, 1) := by decide +kernel
theorem dX6_passYear_10 : decode cX6_passYear 10 = .ok (.aload_n 1, 1) := by decide +kernel
theorem dX6_passYear_11 : decode cX6_passYear 11 = .ok (.iload_n 2, 1) := by decide +kernel
theorem dX6_passYear_12 : decode cX6_passYear 12 = .ok (.invokevirtual 42, 3) := by decide +kernel
theorem dX6_passYear_15 : decode cX6_passYear 15 = .ok (.aload_n 0, 1) := by decide +kernel
theorem dX6_passYear_16 : decode cX6_passYear 16 = .ok (.aload_n 1, 1) := by decide +kernel
theorem dX6_passYear_17 : decode cX6_passYear 17 = .ok (.invokevirtual 46, 3) := by decide +kernel
theorem dX6_passYear_20 : decode cX6_passYear 20 = .ok (.aload_n 1, 1) := by decide +kernel
theorem dX6_passYear_21 : decode cX6_passYear 21 = .ok (.invokevirtual 50, 3) := by decide +kernel
theorem dX6_passYear_24 : decode cX6_passYear 24 = .ok (.aload_n 0, 1) := by decide +kernel
theorem dX6_passYear_25 : decode cX6_passYear 25 = .ok (.aload_n 1, 1) := by decide +kernel
theorem dX6_passYear_26 : decode cX6_passYear 26 = .ok (.iload_n 2, 1) := by decide +kernel
theorem dX6_passYear_27 : decode cX6_passYear 27 = .ok (.invokevirtual 53, 3) := by decide +kernel
theorem dX6_passYear_30 : decode cX6_passYear 30 = .ok (.aload_n 1, 1) := by decide +kernel
theorem dX6_passYear_31 : decode cX6_passYear 31 = .ok (.getfield 56, 3) := by decide +kernel
theorem dX6_passYear_34 : decode cX6_passYear 34 = .ok (.aload_n 1, 1) := by decide +kernel
theorem dX6_passYear_35 : decode cX6_passYear 35 = .ok (.iconst 3, 1) := by decide +kernel
theorem dX6_passYear_36 : decode cX6_passYear 36 = .ok (.invokevirtual 60, 3) := by decide +kernel
theorem dX6_passYear_39 : decode cX6_passYear 39 = .ok (.invokevirtual 64, 3) := by decide +kernel
theorem dX6_passYear_42 : decode cX6_passYear 42 = .ok (.aload_n 1, 1) := by decide +kernel
theorem dX6_passYear_43 : decode cX6_passYear 43 = .ok (.dup, 1) := by decide +kernel
theorem dX6_passYear_44 : decode cX6_passYear 44 = .ok (.getfield 33, 3) := by decide +kernel
theorem dX6_passYear_47 : decode cX6_passYear 47 = .ok (.iconst 1, 1) := by decide +kernel
theorem dX6_passYear_48 : decode cX6_passYear 48 = .ok (.iadd, 1) := by decide +kernel
theorem dX6_passYear_49 : decode cX6_passYear 49 = .ok (.putfield 33, 3) := by decide +kernel
theorem dX6_passYear_52 : decode cX6_passYear 52 = .ok (.return_, 1) := by decide +kernel
theorem dX6_wearBanks_0 : decode cX6_wearBanks 0 = .ok (.aload_n 1, 1) := by decide +kernel
theorem dX6_wearBanks_1 : decode cX6_wearBanks 1 = .ok (.iconst 0, 1) := by decide +kernel
theorem dX6_wearBanks_2 : decode cX6_wearBanks 2 = .ok (.invokevirtual 60, 3) := by decide +kernel
theorem dX6_wearBanks_5 : decode cX6_wearBanks 5 = .ok (.iload_n 2, 1) := by decide +kernel
theorem dX6_wearBanks_6 : decode cX6_wearBanks 6 = .ok (.ifCond .eq 7, 3) := by decide +kernel
theorem dX6_wearBanks_9 : decode cX6_wearBanks 9 = .ok (.iconst 2, 1) := by decide +kernel
theorem dX6_wearBanks_10 : decode cX6_wearBanks 10 = .ok (.goto 4, 3) := by decide +kernel
theorem dX6_wearBanks_13 : decode cX6_wearBanks 13 = .ok (.iconst 1, 1) := by decide +kernel
theorem dX6_wearBanks_14 : decode cX6_wearBanks 14 = .ok (.imul, 1) := by decide +kernel
theorem dX6_wearBanks_15 : decode cX6_wearBanks 15 = .ok (.istore_n 3, 1) := by decide +kernel
theorem dX6_wearBanks_16 : decode cX6_wearBanks 16 = .ok (.iconst 0, 1) := by decide +kernel
theorem dX6_wearBanks_17 : decode cX6_wearBanks 17 = .ok (.istore 4, 2) := by decide +kernel
theorem dX6_wearBanks_19 : decode cX6_wearBanks 19 = .ok (.iconst 0, 1) := by decide +kernel
theorem dX6_wearBanks_20 : decode cX6_wearBanks 20 = .ok (.istore 5, 2) := by decide +kernel
theorem dX6_wearBanks_22 : decode cX6_wearBanks 22 = .ok (.iload 5, 2) := by decide +kernel
theorem dX6_wearBanks_24 : decode cX6_wearBanks 24 = .ok (.sipush 150, 3) := by decide +kernel
theorem dX6_wearBanks_27 : decode cX6_wearBanks 27 = .ok (.if_icmp .ge 56, 3) := by decide +kernel
theorem dX6_wearBanks_30 : decode cX6_wearBanks 30 = .ok (.aload_n 0, 1) := by decide +kernel
theorem dX6_wearBanks_31 : decode cX6_wearBanks 31 = .ok (.getfield 12, 3) := by decide +kernel
theorem dX6_wearBanks_34 : decode cX6_wearBanks 34 = .ok (.aload_n 1, 1) := by decide +kernel
theorem dX6_wearBanks_35 : decode cX6_wearBanks 35 = .ok (.getfield 70, 3) := by decide +kernel
theorem dX6_wearBanks_38 : decode cX6_wearBanks 38 = .ok (.iload 4, 2) := by decide +kernel
theorem dX6_wearBanks_40 : decode cX6_wearBanks 40 = .ok (.invokevirtual 74, 3) := by decide +kernel
theorem dX6_wearBanks_43 : decode cX6_wearBanks 43 = .ok (.ifCond .eq 40, 3) := by decide +kernel
theorem dX6_wearBanks_46 : decode cX6_wearBanks 46 = .ok (.aload_n 1, 1) := by decide +kernel
theorem dX6_wearBanks_47 : decode cX6_wearBanks 47 = .ok (.aload_n 0, 1) := by decide +kernel
theorem dX6_wearBanks_48 : decode cX6_wearBanks 48 = .ok (.getfield 12, 3) := by decide +kernel
theorem dX6_wearBanks_51 : decode cX6_wearBanks 51 = .ok (.invokevirtual 78, 3) := by decide +kernel
theorem dX6_wearBanks_54 : decode cX6_wearBanks 54 = .ok (.ifCond .ne 12, 3) := by decide +kernel
theorem dX6_wearBanks_57 : decode cX6_wearBanks 57 = .ok (.aload_n 1, 1) := by decide +kernel
theorem dX6_wearBanks_58 : decode cX6_wearBanks 58 = .ok (.aload_n 0, 1) := by decide +kernel
theorem dX6_wearBanks_59 : decode cX6_wearBanks 59 = .ok (.getfield 12, 3) := by decide +kernel
theorem dX6_wearBanks_62 : decode cX6_wearBanks 62 = .ok (.iload_n 3, 1) := by decide +kernel
theorem dX6_wearBanks_63 : decode cX6_wearBanks 63 = .ok (.invokevirtual 82, 3) := by decide +kernel
theorem dX6_wearBanks_66 : decode cX6_wearBanks 66 = .ok (.aload_n 0, 1) := by decide +kernel
theorem dX6_wearBanks_67 : decode cX6_wearBanks 67 = .ok (.getfield 12, 3) := by decide +kernel
theorem dX6_wearBanks_70 : decode cX6_wearBanks 70 = .ok (.getfield 86, 3) := by decide +kernel
theorem dX6_wearBanks_73 : decode cX6_wearBanks 73 = .ok (.iconst 1, 1) := by decide +kernel
theorem dX6_wearBanks_74 : decode cX6_wearBanks 74 = .ok (.iadd, 1) := by decide +kernel
theorem dX6_wearBanks_75 : decode cX6_wearBanks 75 = .ok (.istore 4, 2) := by decide +kernel
theorem dX6_wearBanks_77 : decode cX6_wearBanks 77 = .ok (.iinc 5 1, 3) := by decide +kernel
theorem dX6_wearBanks_80 : decode cX6_wearBanks 80 = .ok (.goto (-58), 3) := by decide +kernel
theorem dX6_wearBanks_83 : decode cX6_wearBanks 83 = .ok (.return_, 1) := by decide +kernel
theorem dX6_growBends_0 : decode cX6_growBends 0 = .ok (.iconst 0, 1) := by decide +kernel
theorem dX6_growBends_1 : decode cX6_growBends 1 = .ok (.istore_n 2, 1) := by decide +kernel
theorem dX6_growBends_2 : decode cX6_growBends 2 = .ok (.iconst 0, 1) := by decide +kernel
theorem dX6_growBends_3 : decode cX6_growBends 3 = .ok (.istore_n 3, 1) := by decide +kernel
theorem dX6_growBends_4 : decode cX6_growBends 4 = .ok (.iload_n 3, 1) := by decide +kernel
theorem dX6_growBends_5 : decode cX6_growBends 5 = .ok (.sipush 150, 3) := by decide +kernel
theorem dX6_growBends_8 : decode cX6_growBends 8 = .ok (.if_icmp .ge 71, 3) := by decide +kernel
theorem dX6_growBends_11 : decode cX6_growBends 11 = .ok (.aload_n 0, 1) := by decide +kernel
theorem dX6_growBends_12 : decode cX6_growBends 12 = .ok (.getfield 12, 3) := by decide +kernel
theorem dX6_growBends_15 : decode cX6_growBends 15 = .ok (.aload_n 1, 1) := by decide +kernel
theorem dX6_growBends_16 : decode cX6_growBends 16 = .ok (.getfield 70, 3) := by decide +kernel
theorem dX6_growBends_19 : decode cX6_growBends 19 = .ok (.iload_n 2, 1) := by decide +kernel
theorem dX6_growBends_20 : decode cX6_growBends 20 = .ok (.invokevirtual 74, 3) := by decide +kernel
theorem dX6_growBends_23 : decode cX6_growBends 23 = .ok (.ifCond .eq 56, 3) := by decide +kernel
theorem dX6_growBends_26 : decode cX6_growBends 26 = .ok (.aload_n 1, 1) := by decide +kernel
theorem dX6_growBends_27 : decode cX6_growBends 27 = .ok (.aload_n 0, 1) := by decide +kernel
theorem dX6_growBends_28 : decode cX6_growBends 28 = .ok (.getfield 12, 3) := by decide +kernel
theorem dX6_growBends_31 : decode cX6_growBends 31 = .ok (.invokevirtual 89, 3) := by decide +kernel
theorem dX6_growBends_34 : decode cX6_growBends 34 = .ok (.ifCond .eq 29, 3) := by decide +kernel
theorem dX6_growBends_37 : decode cX6_growBends 37 = .ok (.aload_n 0, 1) := by decide +kernel
theorem dX6_growBends_38 : decode cX6_growBends 38 = .ok (.aload_n 1, 1) := by decide +kernel
theorem dX6_growBends_39 : decode cX6_growBends 39 = .ok (.invokevirtual 92, 3) := by decide +kernel
theorem dX6_growBends_42 : decode cX6_growBends 42 = .ok (.aload_n 1, 1) := by decide +kernel
theorem dX6_growBends_43 : decode cX6_growBends 43 = .ok (.aload_n 0, 1) := by decide +kernel
theorem dX6_growBends_44 : decode cX6_growBends 44 = .ok (.getfield 12, 3) := by decide +kernel
theorem dX6_growBends_47 : decode cX6_growBends 47 = .ok (.invokevirtual 95, 3) := by decide +kernel
theorem dX6_growBends_50 : decode cX6_growBends 50 = .ok (.aload_n 0, 1) := by decide +kernel
theorem dX6_growBends_51 : decode cX6_growBends 51 = .ok (.getfield 12, 3) := by decide +kernel
theorem dX6_growBends_54 : decode cX6_growBends 54 = .ok (.getfield 99, 3) := by decide +kernel
theorem dX6_growBends_57 : decode cX6_growBends 57 = .ok (.iconst 2, 1) := by decide +kernel
theorem dX6_growBends_58 : decode cX6_growBends 58 = .ok (.iadd, 1) := by decide +kernel
theorem dX6_growBends_59 : decode cX6_growBends 59 = .ok (.istore_n 2, 1) := by decide +kernel
theorem dX6_growBends_60 : decode cX6_growBends 60 = .ok (.goto 13, 3) := by decide +kernel
theorem dX6_growBends_63 : decode cX6_growBends 63 = .ok (.aload_n 0, 1) := by decide +kernel
theorem dX6_growBends_64 : decode cX6_growBends 64 = .ok (.getfield 12, 3) := by decide +kernel
theorem dX6_growBends_67 : decode cX6_growBends 67 = .ok (.getfield 86, 3) := by decide +kernel
theorem dX6_growBends_70 : decode cX6_growBends 70 = .ok (.iconst 1, 1) := by decide +kernel
theorem dX6_growBends_71 : decode cX6_growBends 71 = .ok (.iadd, 1) := by decide +kernel
theorem dX6_growBends_72 : decode cX6_growBends 72 = .ok (.istore_n 2, 1) := by decide +kernel
theorem dX6_growBends_73 : decode cX6_growBends 73 = .ok (.iinc 3 1, 3) := by decide +kernel
theorem dX6_growBends_76 : decode cX6_growBends 76 = .ok (.goto (-72), 3) := by decide +kernel
theorem dX6_growBends_79 : decode cX6_growBends 79 = .ok (.return_, 1) := by decide +kernel
theorem dX6_noteTaken_0 : decode cX6_noteTaken 0 = .ok (.aload_n 0, 1) := by decide +kernel
theorem dX6_noteTaken_1 : decode cX6_noteTaken 1 = .ok (.getfield 12, 3) := by decide +kernel
theorem dX6_noteTaken_4 : decode cX6_noteTaken 4 = .ok (.getfield 86, 3) := by decide +kernel
theorem dX6_noteTaken_7 : decode cX6_noteTaken 7 = .ok (.istore_n 2, 1) := by decide +kernel
theorem dX6_noteTaken_8 : decode cX6_noteTaken 8 = .ok (.iload_n 2, 1) := by decide +kernel
theorem dX6_noteTaken_9 : decode cX6_noteTaken 9 = .ok (.aload_n 0, 1) := by decide +kernel
theorem dX6_noteTaken_10 : decode cX6_noteTaken 10 = .ok (.getfield 12, 3) := by decide +kernel
theorem dX6_noteTaken_13 : decode cX6_noteTaken 13 = .ok (.getfield 99, 3) := by decide +kernel
theorem dX6_noteTaken_16 : decode cX6_noteTaken 16 = .ok (.if_icmp .gt 30, 3) := by decide +kernel
theorem dX6_noteTaken_19 : decode cX6_noteTaken 19 = .ok (.aload_n 1, 1) := by decide +kernel
theorem dX6_noteTaken_20 : decode cX6_noteTaken 20 = .ok (.aload_n 0, 1) := by decide +kernel
theorem dX6_noteTaken_21 : decode cX6_noteTaken 21 = .ok (.getfield 12, 3) := by decide +kernel
theorem dX6_noteTaken_24 : decode cX6_noteTaken 24 = .ok (.iload_n 2, 1) := by decide +kernel
theorem dX6_noteTaken_25 : decode cX6_noteTaken 25 = .ok (.invokevirtual 102, 3) := by decide +kernel
theorem dX6_noteTaken_28 : decode cX6_noteTaken 28 = .ok (.aload_n 0, 1) := by decide +kernel
theorem dX6_noteTaken_29 : decode cX6_noteTaken 29 = .ok (.getfield 25, 3) := by decide +kernel
theorem dX6_noteTaken_32 : decode cX6_noteTaken 32 = .ok (.if_icmp .ne 8, 3) := by decide +kernel
theorem dX6_noteTaken_35 : decode cX6_noteTaken 35 = .ok (.aload_n 0, 1) := by decide +kernel
theorem dX6_noteTaken_36 : decode cX6_noteTaken 36 = .ok (.iconst 1, 1) := by decide +kernel
theorem dX6_noteTaken_37 : decode cX6_noteTaken 37 = .ok (.putfield 29, 3) := by decide +kernel
theorem dX6_noteTaken_40 : decode cX6_noteTaken 40 = .ok (.iinc 2 1, 3) := by decide +kernel
theorem dX6_noteTaken_43 : decode cX6_noteTaken 43 = .ok (.goto (-35), 3) := by decide +kernel
theorem dX6_noteTaken_46 : decode cX6_noteTaken 46 = .ok (.return_, 1) := by decide +kernel
theorem dX6_cutNecks_0 : decode cX6_cutNecks 0 = .ok (.iload_n 2, 1) := by decide +kernel
theorem dX6_cutNecks_1 : decode cX6_cutNecks 1 = .ok (.ifCond .eq 7, 3) := by decide +kernel
theorem dX6_cutNecks_4 : decode cX6_cutNecks 4 = .ok (.iconst 0, 1) := by decide +kernel
theorem dX6_cutNecks_5 : decode cX6_cutNecks 5 = .ok (.goto 8, 3) := by decide +kernel
theorem dX6_cutNecks_8 : decode cX6_cutNecks 8 = .ok (.aload_n 1, 1) := by decide +kernel
theorem dX6_cutNecks_9 : decode cX6_cutNecks 9 = .ok (.iconst 2, 1) := by decide +kernel
theorem dX6_cutNecks_10 : decode cX6_cutNecks 10 = .ok (.invokevirtual 60, 3) := by decide +kernel
theorem dX6_cutNecks_13 : decode cX6_cutNecks 13 = .ok (.istore_n 3, 1) := by decide +kernel
theorem dX6_cutNecks_14 : decode cX6_cutNecks 14 = .ok (.aload_n 1, 1) := by decide +kernel
theorem dX6_cutNecks_15 : decode cX6_cutNecks 15 = .ok (.getfield 70, 3) := by decide +kernel
theorem dX6_cutNecks_18 : decode cX6_cutNecks 18 = .ok (.invokevirtual 106, 3) := by decide +kernel
theorem dX6_cutNecks_21 : decode cX6_cutNecks 21 = .ok (.istore 4, 2) := by decide +kernel
theorem dX6_cutNecks_23 : decode cX6_cutNecks 23 = .ok (.iconst 0, 1) := by decide +kernel
theorem dX6_cutNecks_24 : decode cX6_cutNecks 24 = .ok (.istore 5, 2) := by decide +kernel
theorem dX6_cutNecks_26 : decode cX6_cutNecks 26 = .ok (.iload 5, 2) := by decide +kernel
theorem dX6_cutNecks_28 : decode cX6_cutNecks 28 = .ok (.sipush 150, 3) := by decide +kernel
theorem dX6_cutNecks_31 : decode cX6_cutNecks 31 = .ok (.if_icmp .ge 39, 3) := by decide +kernel
theorem dX6_cutNecks_34 : decode cX6_cutNecks 34 = .ok (.aload_n 0, 1) := by decide +kernel
theorem dX6_cutNecks_35 : decode cX6_cutNecks 35 = .ok (.getfield 21, 3) := by decide +kernel
theorem dX6_cutNecks_38 : decode cX6_cutNecks 38 = .ok (.aload_n 1, 1) := by decide +kernel
theorem dX6_cutNecks_39 : decode cX6_cutNecks 39 = .ok (.iload_n 3, 1) := by decide +kernel
theorem dX6_cutNecks_40 : decode cX6_cutNecks 40 = .ok (.invokevirtual 112, 3) := by decide +kernel
theorem dX6_cutNecks_43 : decode cX6_cutNecks 43 = .ok (.ifCond .eq 27, 3) := by decide +kernel
theorem dX6_cutNecks_46 : decode cX6_cutNecks 46 = .ok (.aload_n 1, 1) := by decide +kernel
theorem dX6_cutNecks_47 : decode cX6_cutNecks 47 = .ok (.aload_n 0, 1) := by decide +kernel
theorem dX6_cutNecks_48 : decode cX6_cutNecks 48 = .ok (.getfield 21, 3) := by decide +kernel
theorem dX6_cutNecks_51 : decode cX6_cutNecks 51 = .ok (.getfield 116, 3) := by decide +kernel
theorem dX6_cutNecks_54 : decode cX6_cutNecks 54 = .ok (.aload_n 0, 1) := by decide +kernel
theorem dX6_cutNecks_55 : decode cX6_cutNecks 55 = .ok (.getfield 21, 3) := by decide +kernel
theorem dX6_cutNecks_58 : decode cX6_cutNecks 58 = .ok (.getfield 119, 3) := by decide +kernel
theorem dX6_cutNecks_61 : decode cX6_cutNecks 61 = .ok (.invokevirtual 122, 3) := by decide +kernel
theorem dX6_cutNecks_64 : decode cX6_cutNecks 64 = .ok (.iinc 5 1, 3) := by decide +kernel
theorem dX6_cutNecks_67 : decode cX6_cutNecks 67 = .ok (.goto (-41), 3) := by decide +kernel
theorem dX6_cutNecks_70 : decode cX6_cutNecks 70 = .ok (.aload_n 0, 1) := by decide +kernel
theorem dX6_cutNecks_71 : decode cX6_cutNecks 71 = .ok (.iload 4, 2) := by decide +kernel
theorem dX6_cutNecks_73 : decode cX6_cutNecks 73 = .ok (.aload_n 1, 1) := by decide +kernel
theorem dX6_cutNecks_74 : decode cX6_cutNecks 74 = .ok (.getfield 70, 3) := by decide +kernel
theorem dX6_cutNecks_77 : decode cX6_cutNecks 77 = .ok (.invokevirtual 106, 3) := by decide +kernel
theorem dX6_cutNecks_80 : decode cX6_cutNecks 80 = .ok (.isub, 1) := by decide +kernel
theorem dX6_cutNecks_81 : decode cX6_cutNecks 81 = .ok (.putfield 126, 3) := by decide +kernel
theorem dX6_cutNecks_84 : decode cX6_cutNecks 84 = .ok (.return_, 1) := by decide +kernel
theorem dX7_init_0 : decode cX7_init 0 = .ok (.aload_n 0, 1) := by decide +kernel
theorem dX7_init_1 : decode cX7_init 1 = .ok (.invokespecial 3, 3) := by decide +kernel
theorem dX7_init_4 : decode cX7_init 4 = .ok (.aload_n 0, 1) := by decide +kernel
theorem dX7_init_5 : decode cX7_init 5 = .ok (.getstatic 9, 3) := by decide +kernel
theorem dX7_init_8 : decode cX7_init 8 = .ok (.arraylength, 1) := by decide +kernel
theorem dX7_init_9 : decode cX7_init 9 = .ok (.newarray .int, 2) := by decide +kernel
theorem dX7_init_11 : decode cX7_init 11 = .ok (.putfield 13, 3) := by decide +kernel
theorem dX7_init_14 : decode cX7_init 14 = .ok (.aload_n 0, 1) := by decide +kernel
theorem dX7_init_15 : decode cX7_init 15 = .ok (.new 18, 3) := by decide +kernel
theorem dX7_init_18 : decode cX7_init 18 = .ok (.dup, 1) := by decide +kernel
theorem dX7_init_19 : decode cX7_init 19 = .ok (.invokespecial 20, 3) := by decide +kernel
theorem dX7_init_22 : decode cX7_init 22 = .ok (.putfield 21, 3) := by decide +kernel
theorem dX7_init_25 : decode cX7_init 25 = .ok (.aload_n 0, 1) := by decide +kernel
theorem dX7_init_26 : decode cX7_init 26 = .ok (.new 25, 3) := by decide +kernel
theorem dX7_init_29 : decode cX7_init 29 = .ok (.dup, 1) := by decide +kernel
theorem dX7_init_30 : decode cX7_init 30 = .ok (.invokespecial 27, 3) := by decide +kernel
theorem dX7_init_33 : decode cX7_init 33 = .ok (.putfield 28, 3) := by decide +kernel
theorem dX7_init_36 : decode cX7_init 36 = .ok (.aload_n 0, 1) := by decide +kernel
theorem dX7_init_37 : decode cX7_init 37 = .ok (.sipush 240, 3) := by decide +kernel
theorem dX7_init_40 : decode cX7_init 40 = .ok (.newarray .int, 2) := by decide +kernel
theorem dX7_init_42 : decode cX7_init 42 = .ok (.putfield 32, 3) := by decide +kernel
theorem dX7_init_45 : decode cX7_init 45 = .ok (.aload_n 0, 1) := by decide +kernel
theorem dX7_init_46 : decode cX7_init 46 = .ok (.sipush 240, 3) := by decide +kernel
theorem dX7_init_49 : decode cX7_init 49 = .ok (.newarray .int, 2) := by decide +kernel
theorem dX7_init_51 : decode cX7_init 51 = .ok (.putfield 35, 3) := by decide +kernel
theorem dX7_init_54 : decode cX7_init 54 = .ok (.aload_n 0, 1) := by decide +kernel
theorem dX7_init_55 : decode cX7_init 55 = .ok (.sipush 480, 3) := by decide +kernel
theorem dX7_init_58 : decode cX7_init 58 = .ok (.newarray .int, 2) := by decide +kernel
theorem dX7_init_60 : decode cX7_init 60 = .ok (.putfield 38, 3) := by decide +kernel
theorem dX7_init_63 : decode cX7_init 63 = .ok (.aload_n 0, 1) := by decide +kernel
theorem dX7_init_64 : decode cX7_init 64 = .ok (.sipush 480, 3) := by decide +kernel
theorem dX7_init_67 : decode cX7_init 67 = .ok (.newarray .int, 2) := by decide +kernel
theorem dX7_init_69 : decode cX7_init 69 = .ok (.putfield 41, 3) := by decide +kernel
theorem dX7_init_72 : decode cX7_init 72 = .ok (.aload_n 0, 1) := by decide +kernel
theorem dX7_init_73 : decode cX7_init 73 = .ok (.bipush 8, 2) := by decide +kernel
theorem dX7_init_75 : decode cX7_init 75 = .ok (.newarray .int, 2) := by decide +kernel
theorem dX7_init_77 : decode cX7_init 77 = .ok (.putfield 44, 3) := by decide +kernel
theorem dX7_init_80 : decode cX7_init 80 = .ok (.getstatic 9, 3) := by decide +kernel
theorem dX7_init_83 : decode cX7_init 83 = .ok (.iconst 0, 1) := by decide +kernel
theorem dX7_init_84 : decode cX7_init 84 = .ok (.aload_n 0, 1) := by decide +kernel
theorem dX7_init_85 : decode cX7_init 85 = .ok (.getfield 13, 3) := by decide +kernel
theorem dX7_init_88 : decode cX7_init 88 = .ok (.iconst 0, 1) := by decide +kernel
theorem dX7_init_89 : decode cX7_init 89 = .ok (.aload_n 0, 1) := by decide +kernel
theorem dX7_init_90 : decode cX7_init 90 = .ok (.getfield 13, 3) := by decide +kernel
theorem dX7_init_93 : decode cX7_init 93 = .ok (.arraylength, 1) := by decide +kernel
theorem dX7_init_94 : decode cX7_init 94 = .ok (.invokestatic 47, 3) := by decide +kernel
theorem dX7_init_97 : decode cX7_init 97 = .ok (.iconst 0, 1) := by decide +kernel
theorem dX7_init_98 : decode cX7_init 98 = .ok (.istore_n 1, 1) := by decide +kernel
theorem dX7_init_99 : decode cX7_init 99 = .ok (.iload_n 1, 1) := by decide +kernel
theorem dX7_init_100 : decode cX7_init 100 = .ok (.bipush 20, 2) := by decide +kernel
theorem dX7_init_102 : decode cX7_init 102 = .ok (.if_icmp .ge 23, 3) := by decide +kernel
theorem dX7_init_105 : decode cX7_init 105 = .ok (.aload_n 0, 1) := by decide +kernel
theorem dX7_init_106 : decode cX7_init 106 = .ok (.getfield 21, 3) := by decide +kernel
theorem dX7_init_109 : decode cX7_init 109 = .ok (.iload_n 1, 1) := by decide +kernel
theorem dX7_init_110 : decode cX7_init 110 = .ok (.bipush 6, 2) := by decide +kernel
theorem dX7_init_112 : decode cX7_init 112 = .ok (.invokestatic 53, 3) := by decide +kernel
theorem dX7_init_115 : decode cX7_init 115 = .ok (.invokevirtual 57, 3) := by decide +kernel
theorem dX7_init_118 : decode cX7_init 118 = .ok (.pop, 1) := by decide +kernel
theorem dX7_init_119 : decode cX7_init 119 = .ok (.iinc 1 1, 3) := by decide +kernel
theorem dX7_init_122 : decode cX7_init 122 = .ok (.goto (-23), 3) := by decide +kernel
theorem dX7_init_125 : decode cX7_init 125 = .ok (.return_, 1) := by decide +kernel
theorem dX7_copyFrom_0 : decode cX7_copyFrom 0 = .ok (.aload_n 1, 1) := by decide +kernel
theorem dX7_copyFrom_1 : decode cX7_copyFrom 1 = .ok (.getfield 13, 3) := by decide +kernel
theorem dX7_copyFrom_4 : decode cX7_copyFrom 4 = .ok (.iconst 0, 1) := by decide +kernel
theorem dX7_copyFrom_5 : decode cX7_copyFrom 5 = .ok (.aload_n 0, 1) := by decide +kernel
theorem dX7_copyFrom_6 : decode cX7_copyFrom 6 = .ok (.getfield 13, 3) := by decide +kernel
theorem dX7_copyFrom_9 : decode cX7_copyFrom 9 = .ok (.iconst 0, 1) := by decide +kernel
theorem dX7_copyFrom_10 : decode cX7_copyFrom 10 = .ok (.aload_n 0, 1) := by decide +kernel
theorem dX7_copyFrom_11 : decode cX7_copyFrom 11 = .ok (.getfield 13, 3) := by decide +kernel
theorem dX7_copyFrom_14 : decode cX7_copyFrom 14 = .ok (.arraylength, 1) := by decide +kernel
theorem dX7_copyFrom_15 : decode cX7_copyFrom 15 = .ok (.invokestatic 47, 3) := by decide +kernel
theorem dX7_copyFrom_18 : decode cX7_copyFrom 18 = .ok (.aload_n 0, 1) := by decide +kernel
theorem dX7_copyFrom_19 : decode cX7_copyFrom 19 = .ok (.getfield 21, 3) := by decide +kernel
theorem dX7_copyFrom_22 : decode cX7_copyFrom 22 = .ok (.aload_n 1, 1) := by decide +kernel
theorem dX7_copyFrom_23 : decode cX7_copyFrom 23 = .ok (.getfield 21, 3) := by decide +kernel
theorem dX7_copyFrom_26 : decode cX7_copyFrom 26 = .ok (.invokevirtual 61, 3) := by decide +kernel
theorem dX7_copyFrom_29 : decode cX7_copyFrom 29 = .ok (.aload_n 0, 1) := by decide +kernel
theorem dX7_copyFrom_30 : decode cX7_copyFrom 30 = .ok (.getfield 28, 3) := by decide +kernel
theorem dX7_copyFrom_33 : decode cX7_copyFrom 33 = .ok (.aload_n 1, 1) := by decide +kernel
theorem dX7_copyFrom_34 : decode cX7_copyFrom 34 = .ok (.getfield 28, 3) := by decide +kernel
theorem dX7_copyFrom_37 : decode cX7_copyFrom 37 = .ok (.invokevirtual 65, 3) := by decide +kernel
theorem dX7_copyFrom_40 : decode cX7_copyFrom 40 = .ok (.aload_n 1, 1) := by decide +kernel
theorem dX7_copyFrom_41 : decode cX7_copyFrom 41 = .ok (.getfield 32, 3) := by decide +kernel
theorem dX7_copyFrom_44 : decode cX7_copyFrom 44 = .ok (.iconst 0, 1) := by decide +kernel
theorem dX7_copyFrom_45 : decode cX7_copyFrom 45 = .ok (.aload_n 0, 1) := by decide +kernel
theorem dX7_copyFrom_46 : decode cX7_copyFrom 46 = .ok (.getfield 32, 3) := by decide +kernel
theorem dX7_copyFrom_49 : decode cX7_copyFrom 49 = .ok (.iconst 0, 1) := by decide +kernel
theorem dX7_copyFrom_50 : decode cX7_copyFrom 50 = .ok (.sipush 240, 3) := by decide +kernel
theorem dX7_copyFrom_53 : decode cX7_copyFrom 53 = .ok (.invokestatic 47, 3) := by decide +kernel
theorem dX7_copyFrom_56 : decode cX7_copyFrom 56 = .ok (.aload_n 1, 1) := by decide +kernel
theorem dX7_copyFrom_57 : decode cX7_copyFrom 57 = .ok (.getfield 35, 3) := by decide +kernel
theorem dX7_copyFrom_60 : decode cX7_copyFrom 60 = .ok (.iconst 0, 1) := by decide +kernel
theorem dX7_copyFrom_61 : decode cX7_copyFrom 61 = .ok (.aload_n 0, 1) := by decide +kernel
theorem dX7_copyFrom_62 : decode cX7_copyFrom 62 = .ok (.getfield 35, 3) := by decide +kernel
theorem dX7_copyFrom_65 : decode cX7_copyFrom 65 = .ok (.iconst 0, 1) := by decide +kernel
theorem dX7_copyFrom_66 : decode cX7_copyFrom 66 = .ok (.sipush 240, 3) := by decide +kernel
theorem dX7_copyFrom_69 : decode cX7_copyFrom 69 = .ok (.invokestatic 47, 3) := by decide +kernel
theorem dX7_copyFrom_72 : decode cX7_copyFrom 72 = .ok (.aload_n 1, 1) := by decide +kernel
theorem dX7_copyFrom_73 : decode cX7_copyFrom 73 = .ok (.getfield 38, 3) := by decide +kernel
theorem dX7_copyFrom_76 : decode cX7_copyFrom 76 = .ok (.iconst 0, 1) := by decide +kernel
theorem dX7_copyFrom_77 : decode cX7_copyFrom 77 = .ok (.aload_n 0, 1) := by decide +kernel
theorem dX7_copyFrom_78 : decode cX7_copyFrom 78 = .ok (.getfield 38, 3) := by decide +kernel
theorem dX7_copyFrom_81 : decode cX7_copyFrom 81 = .ok (.iconst 0, 1) := by decide +kernel
theorem dX7_copyFrom_82 : decode cX7_copyFrom 82 = .ok (.sipush 480, 3) := by decide +kernel
theorem dX7_copyFrom_85 : decode cX7_copyFrom 85 = .ok (.invokestatic 47, 3) := by decide +kernel
theorem dX7_copyFrom_88 : decode cX7_copyFrom 88 = .ok (.aload_n 1, 1) := by decide +kernel
theorem dX7_copyFrom_89 : decode cX7_copyFrom 89 = .ok (.getfield 44, 3) := by decide +kernel
theorem dX7_copyFrom_92 : decode cX7_copyFrom 92 = .ok (.iconst 0, 1) := by decide +kernel
theorem dX7_copyFrom_93 : decode cX7_copyFrom 93 = .ok (.aload_n 0, 1) := by decide +kernel
theorem dX7_copyFrom_94 : decode cX7_copyFrom 94 = .ok (.getfield 44, 3) := by decide +kernel
theorem dX7_copyFrom_97 : decode cX7_copyFrom 97 = .ok (.iconst 0, 1) := by decide +kernel
theorem dX7_copyFrom_98 : decode cX7_copyFrom 98 = .ok (.bipush 8, 2) := by decide +kernel
theorem dX7_copyFrom_100 : decode cX7_copyFrom 100 = .ok (.invokestatic 47, 3) := by decide +kernel
theorem dX7_copyFrom_103 : decode cX7_copyFrom 103 = .ok (.aload_n 0, 1) := by decide +kernel
theorem dX7_copyFrom_104 : decode cX7_copyFrom 104 = .ok (.aload_n 1, 1) := by decide +kernel
theorem dX7_copyFrom_105 : decode cX7_copyFrom 105 = .ok (.getfield 68, 3) := by decide +kernel
theorem dX7_copyFrom_108 : decode cX7_copyFrom 108 = .ok (.putfield 68, 3) := by decide +kernel
theorem dX7_copyFrom_111 : decode cX7_copyFrom 111 = .ok (.aload_n 0, 1) := by decide +kernel
theorem dX7_copyFrom_112 : decode cX7_copyFrom 112 = .ok (.aload_n 1, 1) := by decide +kernel
theorem dX7_copyFrom_113 : decode cX7_copyFrom 113 = .ok (.getfield 72, 3) := by decide +kernel
theorem dX7_copyFrom_116 : decode cX7_copyFrom 116 = .ok (.putfield 72, 3) := by decide +kernel
theorem dX7_copyFrom_119 : decode cX7_copyFrom 119 = .ok (.aload_n 0, 1) := by decide +kernel
theorem dX7_copyFrom_120 : decode cX7_copyFrom 120 = .ok (.aload_n 1, 1) := by decide +kernel
theorem dX7_copyFrom_121 : decode cX7_copyFrom 121 = .ok (.getfield 75, 3) := by decide +kernel
theorem dX7_copyFrom_124 : decode cX7_copyFrom 124 = .ok (.putfield 75, 3) := by decide +kernel
theorem dX7_copyFrom_127 : decode cX7_copyFrom 127 = .ok (.aload_n 0, 1) := by decide +kernel
theorem dX7_copyFrom_128 : decode cX7_copyFrom 128 = .ok (.aload_n 1, 1) := by decide +kernel
theorem dX7_copyFrom_129 : decode cX7_copyFrom 129 = .ok (.getfield 78, 3) := by decide +kernel
theorem dX7_copyFrom_132 : decode cX7_copyFrom 132 = .ok (.putfield 78, 3) := by decide +kernel
theorem dX7_copyFrom_135 : decode cX7_copyFrom 135 = .ok (.return_, 1) := by decide +kernel
theorem dX7_clearAllButSettings_0 : decode cX7_clearAllButSettings 0 = .ok (.aload_n 0, 1) := by decide +kernel
theorem dX7_clearAllButSettings_1 : decode cX7_clearAllButSettings 1 = .ok (.getfield 21, 3) := by decide +kernel
theorem dX7_clearAllButSettings_4 : decode cX7_clearAllButSettings 4 = .ok (.invokevirtual 81, 3) := by decide +kernel
theorem dX7_clearAllButSettings_7 : decode cX7_clearAllButSettings 7 = .ok (.aload_n 0, 1) := by decide +kernel
theorem dX7_clearAllButSettings_8 : decode cX7_clearAllButSettings 8 = .ok (.getfield 28, 3) := by decide +kernel
theorem dX7_clearAllButSettings_11 : decode cX7_clearAllButSettings 11 = .ok (.invokevirtual 84, 3) := by decide +kernel
theorem dX7_clearAllButSettings_14 : decode cX7_clearAllButSettings 14 = .ok (.aload_n 0, 1) := by decide +kernel
theorem dX7_clearAllButSettings_15 : decode cX7_clearAllButSettings 15 = .ok (.getfield 32, 3) := by decide +kernel
theorem dX7_clearAllButSettings_18 : decode cX7_clearAllButSettings 18 = .ok (.iconst 0, 1) := by decide +kernel
theorem dX7_clearAllButSettings_19 : decode cX7_clearAllButSettings 19 = .ok (.invokestatic 85, 3) := by decide +kernel
theorem dX7_clearAllButSettings_22 : decode cX7_clearAllButSettings 22 = .ok (.aload_n 0, 1) := by decide +kernel
theorem dX7_clearAllButSettings_23 : decode cX7_clearAllButSettings 23 = .ok (.getfield 35, 3) := by decide +kernel
theorem dX7_clearAllButSettings_26 : decode cX7_clearAllButSettings 26 = .ok (.iconst 0, 1) := by decide +kernel
theorem dX7_clearAllButSettings_27 : decode cX7_clearAllButSettings 27 = .ok (.invokestatic 85, 3) := by decide +kernel
theorem dX7_clearAllButSettings_30 : decode cX7_clearAllButSettings 30 = .ok (.aload_n 0, 1) := by decide +kernel
theorem dX7_clearAllButSettings_31 : decode cX7_clearAllButSettings 31 = .ok (.getfield 38, 3) := by decide +kernel
theorem dX7_clearAllButSettings_34 : decode cX7_clearAllButSettings 34 = .ok (.iconst 0, 1) := by decide +kernel
theorem dX7_clearAllButSettings_35 : decode cX7_clearAllButSettings 35 = .ok (.invokestatic 85, 3) := by decide +kernel
theorem dX7_clearAllButSettings_38 : decode cX7_clearAllButSettings 38 = .ok (.aload_n 0, 1) := by decide +kernel
theorem dX7_clearAllButSettings_39 : decode cX7_clearAllButSettings 39 = .ok (.iconst 0, 1) := by decide +kernel
theorem dX7_clearAllButSettings_40 : decode cX7_clearAllButSettings 40 = .ok (.putfield 68, 3) := by decide +kernel
theorem dX7_clearAllButSettings_43 : decode cX7_clearAllButSettings 43 = .ok (.aload_n 0, 1) := by decide +kernel
theorem dX7_clearAllButSettings_44 : decode cX7_clearAllButSettings 44 = .ok (.iconst 0, 1) := by decide +kernel
theorem dX7_clearAllButSettings_45 : decode cX7_clearAllButSettings 45 = .ok (.putfield 72, 3) := by decide +kernel
theorem dX7_clearAllButSettings_48 : decode cX7_clearAllButSettings 48 = .ok (.aload_n 0, 1) := by decide +kernel
theorem dX7_clearAllButSettings_49 : decode cX7_clearAllButSettings 49 = .ok (.iconst 0, 1) := by decide +kernel
theorem dX7_clearAllButSettings_50 : decode cX7_clearAllButSettings 50 = .ok (.putfield 75, 3) := by decide +kernel
theorem dX7_clearAllButSettings_53 : decode cX7_clearAllButSettings 53 = .ok (.aload_n 0, 1) := by decide +kernel
theorem dX7_clearAllButSettings_54 : decode cX7_clearAllButSettings 54 = .ok (.iconst 0, 1) := by decide +kernel
theorem dX7_clearAllButSettings_55 : decode cX7_clearAllButSettings 55 = .ok (.putfield 78, 3) := by decide +kernel
theorem dX7_clearAllButSettings_58 : decode cX7_clearAllButSettings 58 = .ok (.return_, 1) := by decide +kernel
theorem dX7_setting_0 : decode cX7_setting 0 = .ok (.iload_n 1, 1) := by decide +kernel
theorem dX7_setting_1 : decode cX7_setting 1 = .ok (.ifCond .lt 21, 3) := by decide +kernel
theorem dX7_setting_4 : decode cX7_setting 4 = .ok (.iload_n 1, 1) := by decide +kernel
theorem dX7_setting_5 : decode cX7_setting 5 = .ok (.aload_n 0, 1) := by decide +kernel
theorem dX7_setting_6 : decode cX7_setting 6 = .ok (.getfield 13, 3) := by decide +kernel
theorem dX7_setting_9 : decode cX7_setting 9 = .ok (.arraylength, 1) := by decide +kernel
theorem dX7_setting_10 : decode cX7_setting 10 = .ok (.if_icmp .ge 12, 3) := by decide +kernel
theorem dX7_setting_13 : decode cX7_setting 13 = .ok (.aload_n 0, 1) := by decide +kernel
theorem dX7_setting_14 : decode cX7_setting 14 = .ok (.getfield 13, 3) := by decide +kernel
theorem dX7_setting_17 : decode cX7_setting 17 = .ok (.iload_n 1, 1) := by decide +kernel
theorem dX7_setting_18 : decode cX7_setting 18 = .ok (.iaload, 1) := by decide +kernel
theorem dX7_setting_19 : decode cX7_setting 19 = .ok (.goto 4, 3) := by decide +kernel
theorem dX7_setting_22 : decode cX7_setting 22 = .ok (.iconst 0, 1) := by decide +kernel
theorem dX7_setting_23 : decode cX7_setting 23 = .ok (.ireturn, 1) := by decide +kernel
theorem dX7_changeSetting_0 : decode cX7_changeSetting 0 = .ok (.iload_n 1, 1) := by decide +kernel
theorem dX7_changeSetting_1 : decode cX7_changeSetting 1 = .ok (.ifCond .lt 19, 3) := by decide +kernel
theorem dX7_changeSetting_4 : decode cX7_changeSetting 4 = .ok (.iload_n 1, 1) := by decide +kernel
theorem dX7_changeSetting_5 : decode cX7_changeSetting 5 = .ok (.aload_n 0, 1) := by decide +kernel
theorem dX7_changeSetting_6 : decode cX7_changeSetting 6 = .ok (.getfield 13, 3) := by decide +kernel
theorem dX7_changeSetting_9 : decode cX7_changeSetting 9 = .ok (.arraylength, 1) := by decide +kernel
theorem dX7_changeSetting_10 : decode cX7_changeSetting 10 = .ok (.if_icmp .ge 10, 3) := by decide +kernel
theorem dX7_changeSetting_13 : decode cX7_changeSetting 13 = .ok (.aload_n 0, 1) := by decide +kernel
theorem dX7_changeSetting_14 : decode cX7_changeSetting 14 = .ok (.getfield 13, 3) := by decide +kernel
theorem dX7_changeSetting_17 : decode cX7_changeSetting 17 = .ok (.iload_n 1, 1) := by decide +kernel
theorem dX7_changeSetting_18 : decode cX7_changeSetting 18 = .ok (.iload_n 2, 1) := by decide +kernel
theorem dX7_changeSetting_19 : decode cX7_changeSetting 19 = .ok (.iastore, 1) := by decide +kernel
theorem dX7_changeSetting_20 : decode cX7_changeSetting 20 = .ok (.return_, 1) := by decide +kernel
theorem dX7_isDike_0 : decode cX7_isDike 0 = .ok (.iload_n 1, 1) := by decide +kernel
theorem dX7_isDike_1 : decode cX7_isDike 1 = .ok (.invokestatic 91, 3) := by decide +kernel
theorem dX7_isDike_4 : decode cX7_isDike 4 = .ok (.ifCond .eq 17, 3) := by decide +kernel
theorem dX7_isDike_7 : decode cX7_isDike 7 = .ok (.aload_n 0, 1) := by decide +kernel
theorem dX7_isDike_8 : decode cX7_isDike 8 = .ok (.getfield 35, 3) := by decide +kernel
theorem dX7_isDike_11 : decode cX7_isDike 11 = .ok (.iload_n 1, 1) := by decide +kernel
theorem dX7_isDike_12 : decode cX7_isDike 12 = .ok (.iaload, 1) := by decide +kernel
theorem dX7_isDike_13 : decode cX7_isDike 13 = .ok (.iconst 1, 1) := by decide +kernel
theorem dX7_isDike_14 : decode cX7_isDike 14 = .ok (.if_icmp .ne 7, 3) := by decide +kernel
theorem dX7_isDike_17 : decode cX7_isDike 17 = .ok (.iconst 1, 1) := by decide +kernel
theorem dX7_isDike_18 : decode cX7_isDike 18 = .ok (.goto 4, 3) := by decide +kernel
theorem dX7_isDike_21 : decode cX7_isDike 21 = .ok (.iconst 0, 1) := by decide +kernel
theorem dX7_isDike_22 : decode cX7_isDike 22 = .ok (.ireturn, 1) := by decide +kernel
theorem dX7_changeDike_0 : decode cX7_changeDike 0 = .ok (.iload_n 1, 1) := by decide +kernel
theorem dX7_changeDike_1 : decode cX7_changeDike 1 = .ok (.invokestatic 91, 3) := by decide +kernel
theorem dX7_changeDike_4 : decode cX7_changeDike 4 = .ok (.ifCond .eq 13, 3) := by decide +kernel
theorem dX7_changeDike_7 : decode cX7_changeDike 7 = .ok (.aload_n 0, 1) := by decide +kernel
theorem dX7_changeDike_8 : decode cX7_changeDike 8 = .ok (.getfield 35, 3) := by decide +kernel
theorem dX7_changeDike_11 : decode cX7_changeDike 11 = .ok (.iload_n 1, 1) := by decide +kernel
theorem dX7_changeDike_12 : decode cX7_changeDike 12 = .ok (.iload_n 2, 1) := by decide +kernel
theorem dX7_changeDike_13 : decode cX7_changeDike 13 = .ok (.invokestatic 94, 3) := by decide +kernel
theorem dX7_changeDike_16 : decode cX7_changeDike 16 = .ok (.iastore, 1) := by decide +kernel
theorem dX7_changeDike_17 : decode cX7_changeDike 17 = .ok (.return_, 1) := by decide +kernel
theorem dX7_dikeCount_0 : decode cX7_dikeCount 0 = .ok (.iconst 0, 1) := by decide +kernel
theorem dX7_dikeCount_1 : decode cX7_dikeCount 1 = .ok (.istore_n 1, 1) := by decide +kernel
theorem dX7_dikeCount_2 : decode cX7_dikeCount 2 = .ok (.iconst 0, 1) := by decide +kernel
theorem dX7_dikeCount_3 : decode cX7_dikeCount 3 = .ok (.istore_n 2, 1) := by decide +kernel
theorem dX7_dikeCount_4 : decode cX7_dikeCount 4 = .ok (.iload_n 2, 1) := by decide +kernel
theorem dX7_dikeCount_5 : decode cX7_dikeCount 5 = .ok (.sipush 240, 3) := by decide +kernel
theorem dX7_dikeCount_8 : decode cX7_dikeCount 8 = .ok (.if_icmp .ge 18, 3) := by decide +kernel
theorem dX7_dikeCount_11 : decode cX7_dikeCount 11 = .ok (.iload_n 1, 1) := by decide +kernel
theorem dX7_dikeCount_12 : decode cX7_dikeCount 12 = .ok (.aload_n 0, 1) := by decide +kernel
theorem dX7_dikeCount_13 : decode cX7_dikeCount 13 = .ok (.getfield 35, 3) := by decide +kernel
theorem dX7_dikeCount_16 : decode cX7_dikeCount 16 = .ok (.iload_n 2, 1) := by decide +kernel
theorem dX7_dikeCount_17 : decode cX7_dikeCount 17 = .ok (.iaload, 1) := by decide +kernel
theorem dX7_dikeCount_18 : decode cX7_dikeCount 18 = .ok (.iadd, 1) := by decide +kernel
theorem dX7_dikeCount_19 : decode cX7_dikeCount 19 = .ok (.istore_n 1, 1) := by decide +kernel
theorem dX7_dikeCount_20 : decode cX7_dikeCount 20 = .ok (.iinc 2 1, 3) := by decide +kernel
theorem dX7_dikeCount_23 : decode cX7_dikeCount 23 = .ok (.goto (-19), 3) := by decide +kernel
theorem dX7_dikeCount_26 : decode cX7_dikeCount 26 = .ok (.iload_n 1, 1) := by decide +kernel
theorem dX7_dikeCount_27 : decode cX7_dikeCount 27 = .ok (.ireturn, 1) := by decide +kernel
theorem dX7_hasFlood_0 : decode cX7_hasFlood 0 = .ok (.iconst 0, 1) := by decide +kernel
theorem dX7_hasFlood_1 : decode cX7_hasFlood 1 = .ok (.istore_n 2, 1) := by decide +kernel
theorem dX7_hasFlood_2 : decode cX7_hasFlood 2 = .ok (.iload_n 2, 1) := by decide +kernel
theorem dX7_hasFlood_3 : decode cX7_hasFlood 3 = .ok (.aload_n 0, 1) := by decide +kernel
theorem dX7_hasFlood_4 : decode cX7_hasFlood 4 = .ok (.getfield 68, 3) := by decide +kernel
theorem dX7_hasFlood_7 : decode cX7_hasFlood 7 = .ok (.if_icmp .ge 27, 3) := by decide +kernel
theorem dX7_hasFlood_10 : decode cX7_hasFlood 10 = .ok (.iload_n 2, 1) := by decide +kernel
theorem dX7_hasFlood_11 : decode cX7_hasFlood 11 = .ok (.bipush 8, 2) := by decide +kernel
theorem dX7_hasFlood_13 : decode cX7_hasFlood 13 = .ok (.if_icmp .ge 21, 3) := by decide +kernel
theorem dX7_hasFlood_16 : decode cX7_hasFlood 16 = .ok (.aload_n 0, 1) := by decide +kernel
theorem dX7_hasFlood_17 : decode cX7_hasFlood 17 = .ok (.getfield 44, 3) := by decide +kernel
theorem dX7_hasFlood_20 : decode cX7_hasFlood 20 = .ok (.iload_n 2, 1) := by decide +kernel
theorem dX7_hasFlood_21 : decode cX7_hasFlood 21 = .ok (.iaload, 1) := by decide +kernel
theorem dX7_hasFlood_22 : decode cX7_hasFlood 22 = .ok (.iload_n 1, 1) := by decide +kernel
theorem dX7_hasFlood_23 : decode cX7_hasFlood 23 = .ok (.if_icmp .ne 5, 3) := by decide +kernel
theorem dX7_hasFlood_26 : decode cX7_hasFlood 26 = .ok (.iconst 1, 1) := by decide +kernel
theorem dX7_hasFlood_27 : decode cX7_hasFlood 27 = .ok (.ireturn, 1) := by decide +kernel
theorem dX7_hasFlood_28 : decode cX7_hasFlood 28 = .ok (.iinc 2 1, 3) := by decide +kernel
theorem dX7_hasFlood_31 : decode cX7_hasFlood 31 = .ok (.goto (-29), 3) := by decide +kernel
theorem dX7_hasFlood_34 : decode cX7_hasFlood 34 = .ok (.iconst 0, 1) := by decide +kernel
theorem dX7_hasFlood_35 : decode cX7_hasFlood 35 = .ok (.ireturn, 1) := by decide +kernel
theorem dX7_changeFlood_0 : decode cX7_changeFlood 0 = .ok (.iload_n 2, 1) := by decide +kernel
theorem dX7_changeFlood_1 : decode cX7_changeFlood 1 = .ok (.ifCond .eq 11, 3) := by decide +kernel
theorem dX7_changeFlood_4 : decode cX7_changeFlood 4 = .ok (.aload_n 0, 1) := by decide +kernel
theorem dX7_changeFlood_5 : decode cX7_changeFlood 5 = .ok (.iload_n 1, 1) := by decide +kernel
theorem dX7_changeFlood_6 : decode cX7_changeFlood 6 = .ok (.invokevirtual 98, 3) := by decide +kernel
theorem dX7_changeFlood_9 : decode cX7_changeFlood 9 = .ok (.goto 8, 3) := by decide +kernel
theorem dX7_changeFlood_12 : decode cX7_changeFlood 12 = .ok (.aload_n 0, 1) := by decide +kernel
theorem dX7_changeFlood_13 : decode cX7_changeFlood 13 = .ok (.iload_n 1, 1) := by decide +kernel
theorem dX7_changeFlood_14 : decode cX7_changeFlood 14 = .ok (.invokevirtual 102, 3) := by decide +kernel
theorem dX7_changeFlood_17 : decode cX7_changeFlood 17 = .ok (.return_, 1) := by decide +kernel
theorem dX7_addFlood_0 : decode cX7_addFlood 0 = .ok (.aload_n 0, 1) := by decide +kernel
theorem dX7_addFlood_1 : decode cX7_addFlood 1 = .ok (.getfield 68, 3) := by decide +kernel
theorem dX7_addFlood_4 : decode cX7_addFlood 4 = .ok (.ifCond .lt 32, 3) := by decide +kernel
theorem dX7_addFlood_7 : decode cX7_addFlood 7 = .ok (.aload_n 0, 1) := by decide +kernel
theorem dX7_addFlood_8 : decode cX7_addFlood 8 = .ok (.getfield 68, 3) := by decide +kernel
theorem dX7_addFlood_11 : decode cX7_addFlood 11 = .ok (.bipush 8, 2) := by decide +kernel
theorem dX7_addFlood_13 : decode cX7_addFlood 13 = .ok (.if_icmp .ge 23, 3) := by decide +kernel
theorem dX7_addFlood_16 : decode cX7_addFlood 16 = .ok (.aload_n 0, 1) := by decide +kernel
theorem dX7_addFlood_17 : decode cX7_addFlood 17 = .ok (.getfield 44, 3) := by decide +kernel
theorem dX7_addFlood_20 : decode cX7_addFlood 20 = .ok (.aload_n 0, 1) := by decide +kernel
theorem dX7_addFlood_21 : decode cX7_addFlood 21 = .ok (.getfield 68, 3) := by decide +kernel
theorem dX7_addFlood_24 : decode cX7_addFlood 24 = .ok (.iload_n 1, 1) := by decide +kernel
theorem dX7_addFlood_25 : decode cX7_addFlood 25 = .ok (.iastore, 1) := by decide +kernel
theorem dX7_addFlood_26 : decode cX7_addFlood 26 = .ok (.aload_n 0, 1) := by decide +kernel
theorem dX7_addFlood_27 : decode cX7_addFlood 27 = .ok (.dup, 1) := by decide +kernel
theorem dX7_addFlood_28 : decode cX7_addFlood 28 = .ok (.getfield 68, 3) := by decide +kernel
theorem dX7_addFlood_31 : decode cX7_addFlood 31 = .ok (.iconst 1, 1) := by decide +kernel
theorem dX7_addFlood_32 : decode cX7_addFlood 32 = .ok (.iadd, 1) := by decide +kernel
theorem dX7_addFlood_33 : decode cX7_addFlood 33 = .ok (.putfield 68, 3) := by decide +kernel
theorem dX7_addFlood_36 : decode cX7_addFlood 36 = .ok (.return_, 1) := by decide +kernel
theorem dX7_removeFlood_0 : decode cX7_removeFlood 0 = .ok (.iconst 0, 1) := by decide +kernel
theorem dX7_removeFlood_1 : decode cX7_removeFlood 1 = .ok (.istore_n 2, 1) := by decide +kernel
theorem dX7_removeFlood_2 : decode cX7_removeFlood 2 = .ok (.iconst 0, 1) := by decide +kernel
theorem dX7_removeFlood_3 : decode cX7_removeFlood 3 = .ok (.istore_n 3, 1) := by decide +kernel
theorem dX7_removeFlood_4 : decode cX7_removeFlood 4 = .ok (.iload_n 3, 1) := by decide +kernel
theorem dX7_removeFlood_5 : decode cX7_removeFlood 5 = .ok (.aload_n 0, 1) := by decide +kernel
theorem dX7_removeFlood_6 : decode cX7_removeFlood 6 = .ok (.getfield 68, 3) := by decide +kernel
theorem dX7_removeFlood_9 : decode cX7_removeFlood 9 = .ok (.if_icmp .ge 40, 3) := by decide +kernel
theorem dX7_removeFlood_12 : decode cX7_removeFlood 12 = .ok (.iload_n 3, 1) := by decide +kernel
theorem dX7_removeFlood_13 : decode cX7_removeFlood 13 = .ok (.bipush 8, 2) := by decide +kernel
theorem dX7_removeFlood_15 : decode cX7_removeFlood 15 = .ok (.if_icmp .ge 34, 3) := by decide +kernel
theorem dX7_removeFlood_18 : decode cX7_removeFlood 18 = .ok (.aload_n 0, 1) := by decide +kernel
theorem dX7_removeFlood_19 : decode cX7_removeFlood 19 = .ok (.getfield 44, 3) := by decide +kernel
theorem dX7_removeFlood_22 : decode cX7_removeFlood 22 = .ok (.iload_n 3, 1) := by decide +kernel
theorem dX7_removeFlood_23 : decode cX7_removeFlood 23 = .ok (.iaload, 1) := by decide +kernel
theorem dX7_removeFlood_24 : decode cX7_removeFlood 24 = .ok (.iload_n 1, 1) := by decide +kernel
theorem dX7_removeFlood_25 : decode cX7_removeFlood 25 = .ok (.if_icmp .eq 18, 3) := by decide +kernel
theorem dX7_removeFlood_28 : decode cX7_removeFlood 28 = .ok (.aload_n 0, 1) := by decide +kernel
theorem dX7_removeFlood_29 : decode cX7_removeFlood 29 = .ok (.getfield 44, 3) := by decide +kernel
theorem dX7_removeFlood_32 : decode cX7_removeFlood 32 = .ok (.iload_n 2, 1) := by decide +kernel
theorem dX7_removeFlood_33 : decode cX7_removeFlood 33 = .ok (.aload_n 0, 1) := by decide +kernel
theorem dX7_removeFlood_34 : decode cX7_removeFlood 34 = .ok (.getfield 44, 3) := by decide +kernel
theorem dX7_removeFlood_37 : decode cX7_removeFlood 37 = .ok (.iload_n 3, 1) := by decide +kernel
theorem dX7_removeFlood_38 : decode cX7_removeFlood 38 = .ok (.iaload, 1) := by decide +kernel
theorem dX7_removeFlood_39 : decode cX7_removeFlood 39 = .ok (.iastore, 1) := by decide +kernel
theorem dX7_removeFlood_40 : decode cX7_removeFlood 40 = .ok (.iinc 2 1, 3) := by decide +kernel
theorem dX7_removeFlood_43 : decode cX7_removeFlood 43 = .ok (.iinc 3 1, 3) := by decide +kernel
theorem dX7_removeFlood_46 : decode cX7_removeFlood 46 = .ok (.goto (-42), 3) := by decide +kernel
theorem dX7_removeFlood_49 : decode cX7_removeFlood 49 = .ok (.aload_n 0, 1) := by decide +kernel
theorem dX7_removeFlood_50 : decode cX7_removeFlood 50 = .ok (.iload_n 2, 1) := by decide +kernel
theorem dX7_removeFlood_51 : decode cX7_removeFlood 51 = .ok (.putfield 68, 3) := by decide +kernel
theorem dX7_removeFlood_54 : decode cX7_removeFlood 54 = .ok (.return_, 1) := by decide +kernel
theorem dX7_wearOf_0 : decode cX7_wearOf 0 = .ok (.iload_n 1, 1) := by decide +kernel
theorem dX7_wearOf_1 : decode cX7_wearOf 1 = .ok (.invokestatic 91, 3) := by decide +kernel
theorem dX7_wearOf_4 : decode cX7_wearOf 4 = .ok (.ifCond .eq 12, 3) := by decide +kernel
theorem dX7_wearOf_7 : decode cX7_wearOf 7 = .ok (.aload_n 0, 1) := by decide +kernel
theorem dX7_wearOf_8 : decode cX7_wearOf 8 = .ok (.getfield 32, 3) := by decide +kernel
theorem dX7_wearOf_11 : decode cX7_wearOf 11 = .ok (.iload_n 1, 1) := by decide +kernel
theorem dX7_wearOf_12 : decode cX7_wearOf 12 = .ok (.iaload, 1) := by decide +kernel
theorem dX7_wearOf_13 : decode cX7_wearOf 13 = .ok (.goto 4, 3) := by decide +kernel
theorem dX7_wearOf_16 : decode cX7_wearOf 16 = .ok (.iconst 0, 1) := by decide +kernel
theorem dX7_wearOf_17 : decode cX7_wearOf 17 = .ok (.ireturn, 1) := by decide +kernel
theorem dX7_wearSum_0 : decode cX7_wearSum 0 = .ok (.iconst 0, 1) := by decide +kernel
theorem dX7_wearSum_1 : decode cX7_wearSum 1 = .ok (.istore_n 1, 1) := by decide +kernel
theorem dX7_wearSum_2 : decode cX7_wearSum 2 = .ok (.iconst 0, 1) := by decide +kernel
theorem dX7_wearSum_3 : decode cX7_wearSum 3 = .ok (.istore_n 2, 1) := by decide +kernel
theorem dX7_wearSum_4 : decode cX7_wearSum 4 = .ok (.iload_n 2, 1) := by decide +kernel
theorem dX7_wearSum_5 : decode cX7_wearSum 5 = .ok (.sipush 240, 3) := by decide +kernel
theorem dX7_wearSum_8 : decode cX7_wearSum 8 = .ok (.if_icmp .ge 18, 3) := by decide +kernel
theorem dX7_wearSum_11 : decode cX7_wearSum 11 = .ok (.iload_n 1, 1) := by decide +kernel
theorem dX7_wearSum_12 : decode cX7_wearSum 12 = .ok (.aload_n 0, 1) := by decide +kernel
theorem dX7_wearSum_13 : decode cX7_wearSum 13 = .ok (.getfield 32, 3) := by decide +kernel
theorem dX7_wearSum_16 : decode cX7_wearSum 16 = .ok (.iload_n 2, 1) := by decide +kernel
theorem dX7_wearSum_17 : decode cX7_wearSum 17 = .ok (.iaload, 1) := by decide +kernel
theorem dX7_wearSum_18 : decode cX7_wearSum 18 = .ok (.iadd, 1) := by decide +kernel
theorem dX7_wearSum_19 : decode cX7_wearSum 19 = .ok (.istore_n 1, 1) := by decide +kernel
theorem dX7_wearSum_20 : decode cX7_wearSum 20 = .ok (.iinc 2 1, 3) := by decide +kernel
theorem dX7_wearSum_23 : decode cX7_wearSum 23 = .ok (.goto (-19), 3) := by decide +kernel
theorem dX7_wearSum_26 : decode cX7_wearSum 26 = .ok (.iload_n 1, 1) := by decide +kernel
theorem dX7_wearSum_27 : decode cX7_wearSum 27 = .ok (.ireturn, 1) := by decide +kernel
theorem dX7_bankCell_0 : decode cX7_bankCell 0 = .ok (.aload_n 0, 1) := by decide +kernel
theorem dX7_bankCell_1 : decode cX7_bankCell 1 = .ok (.getfield 21, 3) := by decide +kernel
theorem dX7_bankCell_4 : decode cX7_bankCell 4 = .ok (.iload_n 2, 1) := by decide +kernel
theorem dX7_bankCell_5 : decode cX7_bankCell 5 = .ok (.invokevirtual 105, 3) := by decide +kernel
theorem dX7_bankCell_8 : decode cX7_bankCell 8 = .ok (.aload_n 1, 1) := by decide +kernel
theorem dX7_bankCell_9 : decode cX7_bankCell 9 = .ok (.getfield 109, 3) := by decide +kernel
theorem dX7_bankCell_12 : decode cX7_bankCell 12 = .ok (.invokestatic 114, 3) := by decide +kernel
theorem dX7_bankCell_15 : decode cX7_bankCell 15 = .ok (.ireturn, 1) := by decide +kernel
theorem dX7_isFirm_0 : decode cX7_isFirm 0 = .ok (.aload_n 1, 1) := by decide +kernel
theorem dX7_isFirm_1 : decode cX7_isFirm 1 = .ok (.getfield 117, 3) := by decide +kernel
theorem dX7_isFirm_4 : decode cX7_isFirm 4 = .ok (.istore_n 2, 1) := by decide +kernel
theorem dX7_isFirm_5 : decode cX7_isFirm 5 = .ok (.iload_n 2, 1) := by decide +kernel
theorem dX7_isFirm_6 : decode cX7_isFirm 6 = .ok (.aload_n 1, 1) := by decide +kernel
theorem dX7_isFirm_7 : decode cX7_isFirm 7 = .ok (.getfield 120, 3) := by decide +kernel
theorem dX7_isFirm_10 : decode cX7_isFirm 10 = .ok (.if_icmp .gt 43, 3) := by decide +kernel
theorem dX7_isFirm_13 : decode cX7_isFirm 13 = .ok (.aload_n 0, 1) := by decide +kernel
theorem dX7_isFirm_14 : decode cX7_isFirm 14 = .ok (.aload_n 1, 1) := by decide +kernel
theorem dX7_isFirm_15 : decode cX7_isFirm 15 = .ok (.iload_n 2, 1) := by decide +kernel
theorem dX7_isFirm_16 : decode cX7_isFirm 16 = .ok (.invokevirtual 123, 3) := by decide +kernel
theorem dX7_isFirm_19 : decode cX7_isFirm 19 = .ok (.istore_n 3, 1) := by decide +kernel
theorem dX7_isFirm_20 : decode cX7_isFirm 20 = .ok (.iload_n 3, 1) := by decide +kernel
theorem dX7_isFirm_21 : decode cX7_isFirm 21 = .ok (.iconst (-1), 1) := by decide +kernel
theorem dX7_isFirm_22 : decode cX7_isFirm 22 = .ok (.if_icmp .eq 23, 3) := by decide +kernel
theorem dX7_isFirm_25 : decode cX7_isFirm 25 = .ok (.aload_n 0, 1) := by decide +kernel
theorem dX7_isFirm_26 : decode cX7_isFirm 26 = .ok (.iload_n 3, 1) := by decide +kernel
theorem dX7_isFirm_27 : decode cX7_isFirm 27 = .ok (.invokevirtual 127, 3) := by decide +kernel
theorem dX7_isFirm_30 : decode cX7_isFirm 30 = .ok (.ifCond .ne 15, 3) := by decide +kernel
theorem dX7_isFirm_33 : decode cX7_isFirm 33 = .ok (.aload_n 0, 1) := by decide +kernel
theorem dX7_isFirm_34 : decode cX7_isFirm 34 = .ok (.getfield 21, 3) := by decide +kernel
theorem dX7_isFirm_37 : decode cX7_isFirm 37 = .ok (.iload_n 3, 1) := by decide +kernel
theorem dX7_isFirm_38 : decode cX7_isFirm 38 = .ok (.invokevirtual 130, 3) := by decide +kernel
theorem dX7_isFirm_41 : decode cX7_isFirm 41 = .ok (.iconst (-1), 1) := by decide +kernel
theorem dX7_isFirm_42 : decode cX7_isFirm 42 = .ok (.if_icmp .eq 5, 3) := by decide +kernel
theorem dX7_isFirm_45 : decode cX7_isFirm 45 = .ok (.iconst 1, 1) := by decide +kernel
theorem dX7_isFirm_46 : decode cX7_isFirm 46 = .ok (.ireturn, 1) := by decide +kernel
theorem dX7_isFirm_47 : decode cX7_isFirm 47 = .ok (.iinc 2 1, 3) := by decide +kernel
theorem dX7_isFirm_50 : decode cX7_isFirm 50 = .ok (.goto (-45), 3) := by decide +kernel
theorem dX7_isFirm_53 : decode cX7_isFirm 53 = .ok (.iconst 0, 1) := by decide +kernel
theorem dX7_isFirm_54 : decode cX7_isFirm 54 = .ok (.ireturn, 1) := by decide +kernel
theorem dX7_leastWear_0 : decode cX7_leastWear 0 = .ok (.bipush 99, 2) := by decide +kernel
theorem dX7_leastWear_2 : decode cX7_leastWear 2 = .ok (.istore_n 2, 1) := by decide +kernel
theorem dX7_leastWear_3 : decode cX7_leastWear 3 = .ok (.aload_n 1, 1) := by decide +kernel
theorem dX7_leastWear_4 : decode cX7_leastWear 4 = .ok (.getfield 117, 3) := by decide +kernel
theorem dX7_leastWear_7 : decode cX7_leastWear 7 = .ok (.istore_n 3, 1) := by decide +kernel
theorem dX7_leastWear_8 : decode cX7_leastWear 8 = .ok (.iload_n 3, 1) := by decide +kernel
theorem dX7_leastWear_9 : decode cX7_leastWear 9 = .ok (.aload_n 1, 1) := by decide +kernel
theorem dX7_leastWear_10 : decode cX7_leastWear 10 = .ok (.getfield 120, 3) := by decide +kernel
theorem dX7_leastWear_13 : decode cX7_leastWear 13 = .ok (.if_icmp .gt 24, 3) := by decide +kernel
theorem dX7_leastWear_16 : decode cX7_leastWear 16 = .ok (.iload_n 2, 1) := by decide +kernel
theorem dX7_leastWear_17 : decode cX7_leastWear 17 = .ok (.aload_n 0, 1) := by decide +kernel
theorem dX7_leastWear_18 : decode cX7_leastWear 18 = .ok (.aload_n 0, 1) := by decide +kernel
theorem dX7_leastWear_19 : decode cX7_leastWear 19 = .ok (.aload_n 1, 1) := by decide +kernel
theorem dX7_leastWear_20 : decode cX7_leastWear 20 = .ok (.iload_n 3, 1) := by decide +kernel
theorem dX7_leastWear_21 : decode cX7_leastWear 21 = .ok (.invokevirtual 123, 3) := by decide +kernel
theorem dX7_leastWear_24 : decode cX7_leastWear 24 = .ok (.invokevirtual 133, 3) := by decide +kernel
theorem dX7_leastWear_27 : decode cX7_leastWear 27 = .ok (.invokestatic 136, 3) := by decide +kernel
theorem dX7_leastWear_30 : decode cX7_leastWear 30 = .ok (.istore_n 2, 1) := by decide +kernel
theorem dX7_leastWear_31 : decode cX7_leastWear 31 = .ok (.iinc 3 1, 3) := by decide +kernel
theorem dX7_leastWear_34 : decode cX7_leastWear 34 = .ok (.goto (-26), 3) := by decide +kernel
theorem dX7_leastWear_37 : decode cX7_leastWear 37 = .ok (.iload_n 2, 1) := by decide +kernel
theorem dX7_leastWear_38 : decode cX7_leastWear 38 = .ok (.ireturn, 1) := by decide +kernel
theorem dX7_canGrow_0 : decode cX7_canGrow 0 = .ok (.aload_n 0, 1) := by decide +kernel
theorem dX7_canGrow_1 : decode cX7_canGrow 1 = .ok (.getfield 21, 3) := by decide +kernel
theorem dX7_canGrow_4 : decode cX7_canGrow 4 = .ok (.invokevirtual 141, 3) := by decide +kernel
theorem dX7_canGrow_7 : decode cX7_canGrow 7 = .ok (.iconst 2, 1) := by decide +kernel
theorem dX7_canGrow_8 : decode cX7_canGrow 8 = .ok (.iadd, 1) := by decide +kernel
theorem dX7_canGrow_9 : decode cX7_canGrow 9 = .ok (.sipush 150, 3) := by decide +kernel
theorem dX7_canGrow_12 : decode cX7_canGrow 12 = .ok (.if_icmp .gt 28, 3) := by decide +kernel
theorem dX7_canGrow_15 : decode cX7_canGrow 15 = .ok (.aload_n 0, 1) := by decide +kernel
theorem dX7_canGrow_16 : decode cX7_canGrow 16 = .ok (.aload_n 1, 1) := by decide +kernel
theorem dX7_canGrow_17 : decode cX7_canGrow 17 = .ok (.invokevirtual 145, 3) := by decide +kernel
theorem dX7_canGrow_20 : decode cX7_canGrow 20 = .ok (.ifCond .ne 20, 3) := by decide +kernel
theorem dX7_canGrow_23 : decode cX7_canGrow 23 = .ok (.aload_n 0, 1) := by decide +kernel
theorem dX7_canGrow_24 : decode cX7_canGrow 24 = .ok (.aload_n 1, 1) := by decide +kernel
theorem dX7_canGrow_25 : decode cX7_canGrow 25 = .ok (.invokevirtual 149, 3) := by decide +kernel
theorem dX7_canGrow_28 : decode cX7_canGrow 28 = .ok (.aload_n 0, 1) := by decide +kernel
theorem dX7_canGrow_29 : decode cX7_canGrow 29 = .ok (.iconst 1, 1) := by decide +kernel
theorem dX7_canGrow_30 : decode cX7_canGrow 30 = .ok (.invokevirtual 153, 3) := by decide +kernel
theorem dX7_canGrow_33 : decode cX7_canGrow 33 = .ok (.if_icmp .lt 7, 3) := by decide +kernel
theorem dX7_canGrow_36 : decode cX7_canGrow 36 = .ok (.iconst 1, 1) := by decide +kernel
theorem dX7_canGrow_37 : decode cX7_canGrow 37 = .ok (.goto 4, 3) := by decide +kernel
theorem dX7_canGrow_40 : decode cX7_canGrow 40 = .ok (.iconst 0, 1) := by decide +kernel
theorem dX7_canGrow_41 : decode cX7_canGrow 41 = .ok (.ireturn, 1) := by decide +kernel
theorem dX7_wearBank_0 : decode cX7_wearBank 0 = .ok (.aload_n 1, 1) := by decide +kernel
theorem dX7_wearBank_1 : decode cX7_wearBank 1 = .ok (.getfield 117, 3) := by decide +kernel
theorem dX7_wearBank_4 : decode cX7_wearBank 4 = .ok (.istore_n 3, 1) := by decide +kernel
theorem dX7_wearBank_5 : decode cX7_wearBank 5 = .ok (.iload_n 3, 1) := by decide +kernel
theorem dX7_wearBank_6 : decode cX7_wearBank 6 = .ok (.aload_n 1, 1) := by decide +kernel
theorem dX7_wearBank_7 : decode cX7_wearBank 7 = .ok (.getfield 120, 3) := by decide +kernel
theorem dX7_wearBank_10 : decode cX7_wearBank 10 = .ok (.if_icmp .gt 76, 3) := by decide +kernel
theorem dX7_wearBank_13 : decode cX7_wearBank 13 = .ok (.aload_n 0, 1) := by decide +kernel
theorem dX7_wearBank_14 : decode cX7_wearBank 14 = .ok (.aload_n 1, 1) := by decide +kernel
theorem dX7_wearBank_15 : decode cX7_wearBank 15 = .ok (.iload_n 3, 1) := by decide +kernel
theorem dX7_wearBank_16 : decode cX7_wearBank 16 = .ok (.invokevirtual 123, 3) := by decide +kernel
theorem dX7_wearBank_19 : decode cX7_wearBank 19 = .ok (.istore 4, 2) := by decide +kernel
theorem dX7_wearBank_21 : decode cX7_wearBank 21 = .ok (.iload 4, 2) := by decide +kernel
theorem dX7_wearBank_23 : decode cX7_wearBank 23 = .ok (.invokestatic 91, 3) := by decide +kernel
theorem dX7_wearBank_26 : decode cX7_wearBank 26 = .ok (.ifCond .eq 54, 3) := by decide +kernel
theorem dX7_wearBank_29 : decode cX7_wearBank 29 = .ok (.aload_n 0, 1) := by decide +kernel
theorem dX7_wearBank_30 : decode cX7_wearBank 30 = .ok (.getfield 28, 3) := by decide +kernel
theorem dX7_wearBank_33 : decode cX7_wearBank 33 = .ok (.iload 4, 2) := by decide +kernel
theorem dX7_wearBank_35 : decode cX7_wearBank 35 = .ok (.invokevirtual 156, 3) := by decide +kernel
theorem dX7_wearBank_38 : decode cX7_wearBank 38 = .ok (.iconst (-1), 1) := by decide +kernel
theorem dX7_wearBank_39 : decode cX7_wearBank 39 = .ok (.if_icmp .eq 7, 3) := by decide +kernel
theorem dX7_wearBank_42 : decode cX7_wearBank 42 = .ok (.iconst 1, 1) := by decide +kernel
theorem dX7_wearBank_43 : decode cX7_wearBank 43 = .ok (.goto 4, 3) := by decide +kernel
theorem dX7_wearBank_46 : decode cX7_wearBank 46 = .ok (.iconst 0, 1) := by decide +kernel
theorem dX7_wearBank_47 : decode cX7_wearBank 47 = .ok (.istore 5, 2) := by decide +kernel
theorem dX7_wearBank_49 : decode cX7_wearBank 49 = .ok (.aload_n 0, 1) := by decide +kernel
theorem dX7_wearBank_50 : decode cX7_wearBank 50 = .ok (.getfield 32, 3) := by decide +kernel
theorem dX7_wearBank_53 : decode cX7_wearBank 53 = .ok (.iload 4, 2) := by decide +kernel
theorem dX7_wearBank_55 : decode cX7_wearBank 55 = .ok (.iload 5, 2) := by decide +kernel
theorem dX7_wearBank_57 : decode cX7_wearBank 57 = .ok (.ifCond .eq 8, 3) := by decide +kernel
theorem dX7_wearBank_60 : decode cX7_wearBank 60 = .ok (.bipush 99, 2) := by decide +kernel
theorem dX7_wearBank_62 : decode cX7_wearBank 62 = .ok (.goto 17, 3) := by decide +kernel
theorem dX7_wearBank_65 : decode cX7_wearBank 65 = .ok (.aload_n 0, 1) := by decide +kernel
theorem dX7_wearBank_66 : decode cX7_wearBank 66 = .ok (.getfield 32, 3) := by decide +kernel
theorem dX7_wearBank_69 : decode cX7_wearBank 69 = .ok (.iload 4, 2) := by decide +kernel
theorem dX7_wearBank_71 : decode cX7_wearBank 71 = .ok (.iaload, 1) := by decide +kernel
theorem dX7_wearBank_72 : decode cX7_wearBank 72 = .ok (.iload_n 2, 1) := by decide +kernel
theorem dX7_wearBank_73 : decode cX7_wearBank 73 = .ok (.iadd, 1) := by decide +kernel
theorem dX7_wearBank_74 : decode cX7_wearBank 74 = .ok (.bipush 99, 2) := by decide +kernel
theorem dX7_wearBank_76 : decode cX7_wearBank 76 = .ok (.invokestatic 136, 3) := by decide +kernel
theorem dX7_wearBank_79 : decode cX7_wearBank 79 = .ok (.iastore, 1) := by decide +kernel
theorem dX7_wearBank_80 : decode cX7_wearBank 80 = .ok (.iinc 3 1, 3) := by decide +kernel
theorem dX7_wearBank_83 : decode cX7_wearBank 83 = .ok (.goto (-78), 3) := by decide +kernel
theorem dX7_wearBank_86 : decode cX7_wearBank 86 = .ok (.return_, 1) := by decide +kernel
theorem dX7_growBend_0 : decode cX7_growBend 0 = .ok (.aload_n 1, 1) := by decide +kernel
theorem dX7_growBend_1 : decode cX7_growBend 1 = .ok (.getfield 117, 3) := by decide +kernel
theorem dX7_growBend_4 : decode cX7_growBend 4 = .ok (.istore_n 2, 1) := by decide +kernel
theorem dX7_growBend_5 : decode cX7_growBend 5 = .ok (.iload_n 2, 1) := by decide +kernel
theorem dX7_growBend_6 : decode cX7_growBend 6 = .ok (.aload_n 1, 1) := by decide +kernel
theorem dX7_growBend_7 : decode cX7_growBend 7 = .ok (.getfield 120, 3) := by decide +kernel
theorem dX7_growBend_10 : decode cX7_growBend 10 = .ok (.if_icmp .gt 45, 3) := by decide +kernel
theorem dX7_growBend_13 : decode cX7_growBend 13 = .ok (.aload_n 0, 1) := by decide +kernel
theorem dX7_growBend_14 : decode cX7_growBend 14 = .ok (.aload_n 1, 1) := by decide +kernel
theorem dX7_growBend_15 : decode cX7_growBend 15 = .ok (.iload_n 2, 1) := by decide +kernel
theorem dX7_growBend_16 : decode cX7_growBend 16 = .ok (.invokevirtual 123, 3) := by decide +kernel
theorem dX7_growBend_19 : decode cX7_growBend 19 = .ok (.istore_n 3, 1) := by decide +kernel
theorem dX7_growBend_20 : decode cX7_growBend 20 = .ok (.iload_n 3, 1) := by decide +kernel
theorem dX7_growBend_21 : decode cX7_growBend 21 = .ok (.invokestatic 91, 3) := by decide +kernel
theorem dX7_growBend_24 : decode cX7_growBend 24 = .ok (.ifCond .eq 25, 3) := by decide +kernel
theorem dX7_growBend_27 : decode cX7_growBend 27 = .ok (.aload_n 0, 1) := by decide +kernel
theorem dX7_growBend_28 : decode cX7_growBend 28 = .ok (.getfield 32, 3) := by decide +kernel
theorem dX7_growBend_31 : decode cX7_growBend 31 = .ok (.iload_n 3, 1) := by decide +kernel
theorem dX7_growBend_32 : decode cX7_growBend 32 = .ok (.iconst 0, 1) := by decide +kernel
theorem dX7_growBend_33 : decode cX7_growBend 33 = .ok (.iastore, 1) := by decide +kernel
theorem dX7_growBend_34 : decode cX7_growBend 34 = .ok (.aload_n 0, 1) := by decide +kernel
theorem dX7_growBend_35 : decode cX7_growBend 35 = .ok (.getfield 28, 3) := by decide +kernel
theorem dX7_growBend_38 : decode cX7_growBend 38 = .ok (.aload_n 0, 1) := by decide +kernel
theorem dX7_growBend_39 : decode cX7_growBend 39 = .ok (.getfield 28, 3) := by decide +kernel
theorem dX7_growBend_42 : decode cX7_growBend 42 = .ok (.iload_n 3, 1) := by decide +kernel
theorem dX7_growBend_43 : decode cX7_growBend 43 = .ok (.invokevirtual 156, 3) := by decide +kernel
theorem dX7_growBend_46 : decode cX7_growBend 46 = .ok (.invokevirtual 159, 3) := by decide +kernel
theorem dX7_growBend_49 : decode cX7_growBend 49 = .ok (.iinc 2 1, 3) := by decide +kernel
theorem dX7_growBend_52 : decode cX7_growBend 52 = .ok (.goto (-47), 3) := by decide +kernel
theorem dX7_growBend_55 : decode cX7_growBend 55 = .ok (.aload_n 0, 1) := by decide +kernel
theorem dX7_growBend_56 : decode cX7_growBend 56 = .ok (.getfield 21, 3) := by decide +kernel
theorem dX7_growBend_59 : decode cX7_growBend 59 = .ok (.aload_n 1, 1) := by decide +kernel
theorem dX7_growBend_60 : decode cX7_growBend 60 = .ok (.getfield 117, 3) := by decide +kernel
theorem dX7_growBend_63 : decode cX7_growBend 63 = .ok (.aload_n 1, 1) := by decide +kernel
theorem dX7_growBend_64 : decode cX7_growBend 64 = .ok (.getfield 120, 3) := by decide +kernel
theorem dX7_growBend_67 : decode cX7_growBend 67 = .ok (.aload_n 1, 1) := by decide +kernel
theorem dX7_growBend_68 : decode cX7_growBend 68 = .ok (.getfield 109, 3) := by decide +kernel
theorem dX7_growBend_71 : decode cX7_growBend 71 = .ok (.invokevirtual 162, 3) := by decide +kernel
theorem dX7_growBend_74 : decode cX7_growBend 74 = .ok (.aload_n 0, 1) := by decide +kernel
theorem dX7_growBend_75 : decode cX7_growBend 75 = .ok (.dup, 1) := by decide +kernel
theorem dX7_growBend_76 : decode cX7_growBend 76 = .ok (.getfield 78, 3) := by decide +kernel
theorem dX7_growBend_79 : decode cX7_growBend 79 = .ok (.iconst 1, 1) := by decide +kernel
theorem dX7_growBend_80 : decode cX7_growBend 80 = .ok (.iadd, 1) := by decide +kernel
theorem dX7_growBend_81 : decode cX7_growBend 81 = .ok (.putfield 78, 3) := by decide +kernel
theorem dX7_growBend_84 : decode cX7_growBend 84 = .ok (.return_, 1) := by decide +kernel
theorem dX7_pairOf_0 : decode cX7_pairOf 0 = .ok (.aload_n 0, 1) := by decide +kernel
theorem dX7_pairOf_1 : decode cX7_pairOf 1 = .ok (.getfield 21, 3) := by decide +kernel
theorem dX7_pairOf_4 : decode cX7_pairOf 4 = .ok (.iload_n 1, 1) := by decide +kernel
theorem dX7_pairOf_5 : decode cX7_pairOf 5 = .ok (.invokevirtual 105, 3) := by decide +kernel
theorem dX7_pairOf_8 : decode cX7_pairOf 8 = .ok (.istore_n 3, 1) := by decide +kernel
theorem dX7_pairOf_9 : decode cX7_pairOf 9 = .ok (.aload_n 0, 1) := by decide +kernel
theorem dX7_pairOf_10 : decode cX7_pairOf 10 = .ok (.getfield 21, 3) := by decide +kernel
theorem dX7_pairOf_13 : decode cX7_pairOf 13 = .ok (.iload_n 2, 1) := by decide +kernel
theorem dX7_pairOf_14 : decode cX7_pairOf 14 = .ok (.invokevirtual 105, 3) := by decide +kernel
theorem dX7_pairOf_17 : decode cX7_pairOf 17 = .ok (.istore 4, 2) := by decide +kernel
theorem dX7_pairOf_19 : decode cX7_pairOf 19 = .ok (.iload_n 3, 1) := by decide +kernel
theorem dX7_pairOf_20 : decode cX7_pairOf 20 = .ok (.iconst (-1), 1) := by decide +kernel
theorem dX7_pairOf_21 : decode cX7_pairOf 21 = .ok (.if_icmp .eq 9, 3) := by decide +kernel
theorem dX7_pairOf_24 : decode cX7_pairOf 24 = .ok (.iload 4, 2) := by decide +kernel
theorem dX7_pairOf_26 : decode cX7_pairOf 26 = .ok (.iconst (-1), 1) := by decide +kernel
theorem dX7_pairOf_27 : decode cX7_pairOf 27 = .ok (.if_icmp .ne 5, 3) := by decide +kernel
theorem dX7_pairOf_30 : decode cX7_pairOf 30 = .ok (.iconst (-1), 1) := by decide +kernel
theorem dX7_pairOf_31 : decode cX7_pairOf 31 = .ok (.ireturn, 1) := by decide +kernel
theorem dX7_pairOf_32 : decode cX7_pairOf 32 = .ok (.iload_n 3, 1) := by decide +kernel
theorem dX7_pairOf_33 : decode cX7_pairOf 33 = .ok (.iload 4, 2) := by decide +kernel
theorem dX7_pairOf_35 : decode cX7_pairOf 35 = .ok (.isub, 1) := by decide +kernel
theorem dX7_pairOf_36 : decode cX7_pairOf 36 = .ok (.invokestatic 166, 3) := by decide +kernel
theorem dX7_pairOf_39 : decode cX7_pairOf 39 = .ok (.bipush 20, 2) := by decide +kernel
theorem dX7_pairOf_41 : decode cX7_pairOf 41 = .ok (.if_icmp .ne 7, 3) := by decide +kernel
theorem dX7_pairOf_44 : decode cX7_pairOf 44 = .ok (.iconst 1, 1) := by decide +kernel
theorem dX7_pairOf_45 : decode cX7_pairOf 45 = .ok (.goto 4, 3) := by decide +kernel
theorem dX7_pairOf_48 : decode cX7_pairOf 48 = .ok (.iconst 0, 1) := by decide +kernel
theorem dX7_pairOf_49 : decode cX7_pairOf 49 = .ok (.istore 5, 2) := by decide +kernel
theorem dX7_pairOf_51 : decode cX7_pairOf 51 = .ok (.iconst 2, 1) := by decide +kernel
theorem dX7_pairOf_52 : decode cX7_pairOf 52 = .ok (.iload_n 3, 1) := by decide +kernel
theorem dX7_pairOf_53 : decode cX7_pairOf 53 = .ok (.iload 4, 2) := by decide +kernel
theorem dX7_pairOf_55 : decode cX7_pairOf 55 = .ok (.invokestatic 136, 3) := by decide +kernel
theorem dX7_pairOf_58 : decode cX7_pairOf 58 = .ok (.imul, 1) := by decide +kernel
theorem dX7_pairOf_59 : decode cX7_pairOf 59 = .ok (.iload 5, 2) := by decide +kernel
theorem dX7_pairOf_61 : decode cX7_pairOf 61 = .ok (.iadd, 1) := by decide +kernel
theorem dX7_pairOf_62 : decode cX7_pairOf 62 = .ok (.ireturn, 1) := by decide +kernel
theorem dX7_ageOf_0 : decode cX7_ageOf 0 = .ok (.aload_n 0, 1) := by decide +kernel
theorem dX7_ageOf_1 : decode cX7_ageOf 1 = .ok (.iload_n 1, 1) := by decide +kernel
theorem dX7_ageOf_2 : decode cX7_ageOf 2 = .ok (.iload_n 2, 1) := by decide +kernel
theorem dX7_ageOf_3 : decode cX7_ageOf 3 = .ok (.invokevirtual 169, 3) := by decide +kernel
theorem dX7_ageOf_6 : decode cX7_ageOf 6 = .ok (.istore_n 3, 1) := by decide +kernel
theorem dX7_ageOf_7 : decode cX7_ageOf 7 = .ok (.iload_n 3, 1) := by decide +kernel
theorem dX7_ageOf_8 : decode cX7_ageOf 8 = .ok (.ifCond .lt 19, 3) := by decide +kernel
theorem dX7_ageOf_11 : decode cX7_ageOf 11 = .ok (.iload_n 3, 1) := by decide +kernel
theorem dX7_ageOf_12 : decode cX7_ageOf 12 = .ok (.sipush 480, 3) := by decide +kernel
theorem dX7_ageOf_15 : decode cX7_ageOf 15 = .ok (.if_icmp .ge 12, 3) := by decide +kernel
theorem dX7_ageOf_18 : decode cX7_ageOf 18 = .ok (.aload_n 0, 1) := by decide +kernel
theorem dX7_ageOf_19 : decode cX7_ageOf 19 = .ok (.getfield 38, 3) := by decide +kernel
theorem dX7_ageOf_22 : decode cX7_ageOf 22 = .ok (.iload_n 3, 1) := by decide +kernel
theorem dX7_ageOf_23 : decode cX7_ageOf 23 = .ok (.iaload, 1) := by decide +kernel
theorem dX7_ageOf_24 : decode cX7_ageOf 24 = .ok (.goto 4, 3) := by decide +kernel
theorem dX7_ageOf_27 : decode cX7_ageOf 27 = .ok (.iconst 0, 1) := by decide +kernel
theorem dX7_ageOf_28 : decode cX7_ageOf 28 = .ok (.ireturn, 1) := by decide +kernel
theorem dX7_agePairs_0 : decode cX7_agePairs 0 = .ok (.aload_n 0, 1) := by decide +kernel
theorem dX7_agePairs_1 : decode cX7_agePairs 1 = .ok (.getfield 38, 3) := by decide +kernel
theorem dX7_agePairs_4 : decode cX7_agePairs 4 = .ok (.iconst 0, 1) := by decide +kernel
theorem dX7_agePairs_5 : decode cX7_agePairs 5 = .ok (.aload_n 0, 1) := by decide +kernel
theorem dX7_agePairs_6 : decode cX7_agePairs 6 = .ok (.getfield 41, 3) := by decide +kernel
theorem dX7_agePairs_9 : decode cX7_agePairs 9 = .ok (.iconst 0, 1) := by decide +kernel
theorem dX7_agePairs_10 : decode cX7_agePairs 10 = .ok (.sipush 480, 3) := by decide +kernel
theorem dX7_agePairs_13 : decode cX7_agePairs 13 = .ok (.invokestatic 47, 3) := by decide +kernel
theorem dX7_agePairs_16 : decode cX7_agePairs 16 = .ok (.aload_n 0, 1) := by decide +kernel
theorem dX7_agePairs_17 : decode cX7_agePairs 17 = .ok (.getfield 38, 3) := by decide +kernel
theorem dX7_agePairs_20 : decode cX7_agePairs 20 = .ok (.iconst 0, 1) := by decide +kernel
theorem dX7_agePairs_21 : decode cX7_agePairs 21 = .ok (.invokestatic 85, 3) := by decide +kernel
theorem dX7_agePairs_24 : decode cX7_agePairs 24 = .ok (.iconst 0, 1) := by decide +kernel
theorem dX7_agePairs_25 : decode cX7_agePairs 25 = .ok (.istore_n 1, 1) := by decide +kernel
theorem dX7_agePairs_26 : decode cX7_agePairs 26 = .ok (.iload_n 1, 1) := by decide +kernel
theorem dX7_agePairs_27 : decode cX7_agePairs 27 = .ok (.aload_n 0, 1) := by decide +kernel
theorem dX7_agePairs_28 : decode cX7_agePairs 28 = .ok (.getfield 21, 3) := by decide +kernel
theorem dX7_agePairs_31 : decode cX7_agePairs 31 = .ok (.invokevirtual 141, 3) := by decide +kernel
theorem dX7_agePairs_34 : decode cX7_agePairs 34 = .ok (.if_icmp .ge 80, 3) := by decide +kernel
theorem dX7_agePairs_37 : decode cX7_agePairs 37 = .ok (.iconst 0, 1) := by decide +kernel
theorem dX7_agePairs_38 : decode cX7_agePairs 38 = .ok (.istore_n 2, 1) := by decide +kernel
theorem dX7_agePairs_39 : decode cX7_agePairs 39 = .ok (.iload_n 2, 1) := by decide +kernel
theorem dX7_agePairs_40 : decode cX7_agePairs 40 = .ok (.iconst 4, 1) := by decide +kernel
theorem dX7_agePairs_41 : decode cX7_agePairs 41 = .ok (.if_icmp .ge 67, 3) := by decide +kernel
theorem dX7_agePairs_44 : decode cX7_agePairs 44 = .ok (.aload_n 0, 1) := by decide +kernel
theorem dX7_agePairs_45 : decode cX7_agePairs 45 = .ok (.getfield 21, 3) := by decide +kernel
theorem dX7_agePairs_48 : decode cX7_agePairs 48 = .ok (.iload_n 1, 1) := by decide +kernel
theorem dX7_agePairs_49 : decode cX7_agePairs 49 = .ok (.iload_n 2, 1) := by decide +kernel
theorem dX7_agePairs_50 : decode cX7_agePairs 50 = .ok (.invokevirtual 172, 3) := by decide +kernel
theorem dX7_agePairs_53 : decode cX7_agePairs 53 = .ok (.istore_n 3, 1) := by decide +kernel
theorem dX7_agePairs_54 : decode cX7_agePairs 54 = .ok (.iload_n 3, 1) := by decide +kernel
theorem dX7_agePairs_55 : decode cX7_agePairs 55 = .ok (.iload_n 1, 1) := by decide +kernel
theorem dX7_agePairs_56 : decode cX7_agePairs 56 = .ok (.iconst 3, 1) := by decide +kernel
theorem dX7_agePairs_57 : decode cX7_agePairs 57 = .ok (.iadd, 1) := by decide +kernel
theorem dX7_agePairs_58 : decode cX7_agePairs 58 = .ok (.if_icmp .lt 12, 3) := by decide +kernel
theorem dX7_agePairs_61 : decode cX7_agePairs 61 = .ok (.aload_n 0, 1) := by decide +kernel
theorem dX7_agePairs_62 : decode cX7_agePairs 62 = .ok (.iload_n 1, 1) := by decide +kernel
theorem dX7_agePairs_63 : decode cX7_agePairs 63 = .ok (.iload_n 3, 1) := by decide +kernel
theorem dX7_agePairs_64 : decode cX7_agePairs 64 = .ok (.invokevirtual 169, 3) := by decide +kernel
theorem dX7_agePairs_67 : decode cX7_agePairs 67 = .ok (.goto 4, 3) := by decide +kernel
theorem dX7_agePairs_70 : decode cX7_agePairs 70 = .ok (.iconst (-1), 1) := by decide +kernel
theorem dX7_agePairs_71 : decode cX7_agePairs 71 = .ok (.istore 4, 2) := by decide +kernel
theorem dX7_agePairs_73 : decode cX7_agePairs 73 = .ok (.iload 4, 2) := by decide +kernel
theorem dX7_agePairs_75 : decode cX7_agePairs 75 = .ok (.ifCond .lt 27, 3) := by decide +kernel
theorem dX7_agePairs_78 : decode cX7_agePairs 78 = .ok (.iload 4, 2) := by decide +kernel
theorem dX7_agePairs_80 : decode cX7_agePairs 80 = .ok (.sipush 480, 3) := by decide +kernel
theorem dX7_agePairs_83 : decode cX7_agePairs 83 = .ok (.if_icmp .ge 19, 3) := by decide +kernel
theorem dX7_agePairs_86 : decode cX7_agePairs 86 = .ok (.aload_n 0, 1) := by decide +kernel
theorem dX7_agePairs_87 : decode cX7_agePairs 87 = .ok (.getfield 38, 3) := by decide +kernel
theorem dX7_agePairs_90 : decode cX7_agePairs 90 = .ok (.iload 4, 2) := by decide +kernel
theorem dX7_agePairs_92 : decode cX7_agePairs 92 = .ok (.aload_n 0, 1) := by decide +kernel
theorem dX7_agePairs_93 : decode cX7_agePairs 93 = .ok (.getfield 41, 3) := by decide +kernel
theorem dX7_agePairs_96 : decode cX7_agePairs 96 = .ok (.iload 4, 2) := by decide +kernel
theorem dX7_agePairs_98 : decode cX7_agePairs 98 = .ok (.iaload, 1) := by decide +kernel
theorem dX7_agePairs_99 : decode cX7_agePairs 99 = .ok (.iconst 1, 1) := by decide +kernel
theorem dX7_agePairs_100 : decode cX7_agePairs 100 = .ok (.iadd, 1) := by decide +kernel
theorem dX7_agePairs_101 : decode cX7_agePairs 101 = .ok (.iastore, 1) := by decide +kernel
theorem dX7_agePairs_102 : decode cX7_agePairs 102 = .ok (.iinc 2 1, 3) := by decide +kernel
theorem dX7_agePairs_105 : decode cX7_agePairs 105 = .ok (.goto (-66), 3) := by decide +kernel
theorem dX7_agePairs_108 : decode cX7_agePairs 108 = .ok (.iinc 1 1, 3) := by decide +kernel
theorem dX7_agePairs_111 : decode cX7_agePairs 111 = .ok (.goto (-85), 3) := by decide +kernel
theorem dX7_agePairs_114 : decode cX7_agePairs 114 = .ok (.return_, 1) := by decide +kernel
theorem dX7_cutBetween_0 : decode cX7_cutBetween 0 = .ok (.aload_n 0, 1) := by decide +kernel
theorem dX7_cutBetween_1 : decode cX7_cutBetween 1 = .ok (.getfield 28, 3) := by decide +kernel
theorem dX7_cutBetween_4 : decode cX7_cutBetween 4 = .ok (.aload_n 0, 1) := by decide +kernel
theorem dX7_cutBetween_5 : decode cX7_cutBetween 5 = .ok (.getfield 21, 3) := by decide +kernel
theorem dX7_cutBetween_8 : decode cX7_cutBetween 8 = .ok (.iload_n 1, 1) := by decide +kernel
theorem dX7_cutBetween_9 : decode cX7_cutBetween 9 = .ok (.iload_n 2, 1) := by decide +kernel
theorem dX7_cutBetween_10 : decode cX7_cutBetween 10 = .ok (.invokevirtual 175, 3) := by decide +kernel
theorem dX7_cutBetween_13 : decode cX7_cutBetween 13 = .ok (.aload_n 0, 1) := by decide +kernel
theorem dX7_cutBetween_14 : decode cX7_cutBetween 14 = .ok (.getfield 21, 3) := by decide +kernel
theorem dX7_cutBetween_17 : decode cX7_cutBetween 17 = .ok (.iload_n 1, 1) := by decide +kernel
theorem dX7_cutBetween_18 : decode cX7_cutBetween 18 = .ok (.iload_n 2, 1) := by decide +kernel
theorem dX7_cutBetween_19 : decode cX7_cutBetween 19 = .ok (.invokevirtual 179, 3) := by decide +kernel
theorem dX7_cutBetween_22 : decode cX7_cutBetween 22 = .ok (.aload_n 0, 1) := by decide +kernel
theorem dX7_cutBetween_23 : decode cX7_cutBetween 23 = .ok (.dup, 1) := by decide +kernel
theorem dX7_cutBetween_24 : decode cX7_cutBetween 24 = .ok (.getfield 75, 3) := by decide +kernel
theorem dX7_cutBetween_27 : decode cX7_cutBetween 27 = .ok (.iconst 1, 1) := by decide +kernel
theorem dX7_cutBetween_28 : decode cX7_cutBetween 28 = .ok (.iadd, 1) := by decide +kernel
theorem dX7_cutBetween_29 : decode cX7_cutBetween 29 = .ok (.putfield 75, 3) := by decide +kernel
theorem dX7_cutBetween_32 : decode cX7_cutBetween 32 = .ok (.return_, 1) := by decide +kernel
theorem dX8_init_0 : decode cX8_init 0 = .ok (.aload_n 0, 1) := by decide +kernel
theorem dX8_init_1 : decode cX8_init 1 = .ok (.invokespecial 3, 3) := by decide +kernel
theorem dX8_init_4 : decode cX8_init 4 = .ok (.aload_n 0, 1) := by decide +kernel
theorem dX8_init_5 : decode cX8_init 5 = .ok (.new 9, 3) := by decide +kernel
theorem dX8_init_8 : decode cX8_init 8 = .ok (.dup, 1) := by decide +kernel
theorem dX8_init_9 : decode cX8_init 9 = .ok (.invokespecial 11, 3) := by decide +kernel
theorem dX8_init_12 : decode cX8_init 12 = .ok (.putfield 12, 3) := by decide +kernel
theorem dX8_init_15 : decode cX8_init 15 = .ok (.aload_n 0, 1) := by decide +kernel
theorem dX8_init_16 : decode cX8_init 16 = .ok (.new 9, 3) := by decide +kernel
theorem dX8_init_19 : decode cX8_init 19 = .ok (.dup, 1) := by decide +kernel
theorem dX8_init_20 : decode cX8_init 20 = .ok (.invokespecial 11, 3) := by decide +kernel
theorem dX8_init_23 : decode cX8_init 23 = .ok (.putfield 16, 3) := by decide +kernel
theorem dX8_init_26 : decode cX8_init 26 = .ok (.aload_n 0, 1) := by decide +kernel
theorem dX8_init_27 : decode cX8_init 27 = .ok (.iconst 2, 1) := by decide +kernel
theorem dX8_init_28 : decode cX8_init 28 = .ok (.anewarray 9, 3) := by decide +kernel
theorem dX8_init_31 : decode cX8_init 31 = .ok (.putfield 19, 3) := by decide +kernel
theorem dX8_init_34 : decode cX8_init 34 = .ok (.aload_n 0, 1) := by decide +kernel
theorem dX8_init_35 : decode cX8_init 35 = .ok (.iconst 2, 1) := by decide +kernel
theorem dX8_init_36 : decode cX8_init 36 = .ok (.newarray .boolean, 2) := by decide +kernel
theorem dX8_init_38 : decode cX8_init 38 = .ok (.putfield 23, 3) := by decide +kernel
theorem dX8_init_41 : decode cX8_init 41 = .ok (.aload_n 0, 1) := by decide +kernel
theorem dX8_init_42 : decode cX8_init 42 = .ok (.new 27, 3) := by decide +kernel
theorem dX8_init_45 : decode cX8_init 45 = .ok (.dup, 1) := by decide +kernel
theorem dX8_init_46 : decode cX8_init 46 = .ok (.invokespecial 29, 3) := by decide +kernel
theorem dX8_init_49 : decode cX8_init 49 = .ok (.putfield 30, 3) := by decide +kernel
theorem dX8_init_52 : decode cX8_init 52 = .ok (.aload_n 0, 1) := by decide +kernel
theorem dX8_init_53 : decode cX8_init 53 = .ok (.new 34, 3) := by decide +kernel
theorem dX8_init_56 : decode cX8_init 56 = .ok (.dup, 1) := by decide +kernel
theorem dX8_init_57 : decode cX8_init 57 = .ok (.invokespecial 36, 3) := by decide +kernel
theorem dX8_init_60 : decode cX8_init 60 = .ok (.putfield 37, 3) := by decide +kernel
theorem dX8_init_63 : decode cX8_init 63 = .ok (.aload_n 0, 1) := by decide +kernel
theorem dX8_init_64 : decode cX8_init 64 = .ok (.new 41, 3) := by decide +kernel
theorem dX8_init_67 : decode cX8_init 67 = .ok (.dup, 1) := by decide +kernel
theorem dX8_init_68 : decode cX8_init 68 = .ok (.invokespecial 43, 3) := by decide +kernel
theorem dX8_init_71 : decode cX8_init 71 = .ok (.putfield 44, 3) := by decide +kernel
theorem dX8_init_74 : decode cX8_init 74 = .ok (.aload_n 0, 1) := by decide +kernel
theorem dX8_init_75 : decode cX8_init 75 = .ok (.new 48, 3) := by decide +kernel
theorem dX8_init_78 : decode cX8_init 78 = .ok (.dup, 1) := by decide +kernel
theorem dX8_init_79 : decode cX8_init 79 = .ok (.invokespecial 50, 3) := by decide +kernel
theorem dX8_init_82 : decode cX8_init 82 = .ok (.putfield 51, 3) := by decide +kernel
theorem dX8_init_85 : decode cX8_init 85 = .ok (.aload_n 0, 1) := by decide +kernel
theorem dX8_init_86 : decode cX8_init 86 = .ok (.new 55, 3) := by decide +kernel
theorem dX8_init_89 : decode cX8_init 89 = .ok (.dup, 1) := by decide +kernel
theorem dX8_init_90 : decode cX8_init 90 = .ok (.invokespecial 57, 3) := by decide +kernel
theorem dX8_init_93 : decode cX8_init 93 = .ok (.putfield 58, 3) := by decide +kernel
theorem dX8_init_96 : decode cX8_init 96 = .ok (.iconst 0, 1) := by decide +kernel
theorem dX8_init_97 : decode cX8_init 97 = .ok (.istore_n 1, 1) := by decide +kernel
theorem dX8_init_98 : decode cX8_init 98 = .ok (.iload_n 1, 1) := by decide +kernel
theorem dX8_init_99 : decode cX8_init 99 = .ok (.aload_n 0, 1) := by decide +kernel
theorem dX8_init_100 : decode cX8_init 100 = .ok (.getfield 19, 3) := by decide +kernel
theorem dX8_init_103 : decode cX8_init 103 = .ok (.arraylength, 1) := by decide +kernel
theorem dX8_init_104 : decode cX8_init 104 = .ok (.if_icmp .ge 22, 3) := by decide +kernel
theorem dX8_init_107 : decode cX8_init 107 = .ok (.aload_n 0, 1) := by decide +kernel
theorem dX8_init_108 : decode cX8_init 108 = .ok (.getfield 19, 3) := by decide +kernel
theorem dX8_init_111 : decode cX8_init 111 = .ok (.iload_n 1, 1) := by decide +kernel
theorem dX8_init_112 : decode cX8_init 112 = .ok (.new 9, 3) := by decide +kernel
theorem dX8_init_115 : decode cX8_init 115 = .ok (.dup, 1) := by decide +kernel
theorem dX8_init_116 : decode cX8_init 116 = .ok (.invokespecial 11, 3) := by decide +kernel
theorem dX8_init_119 : decode cX8_init 119 = .ok (.aastore, 1) := by decide +kernel
theorem dX8_init_120 : decode cX8_init 120 = .ok (.iinc 1 1, 3) := by decide +kernel
theorem dX8_init_123 : decode cX8_init 123 = .ok (.goto (-25), 3) := by decide +kernel
theorem dX8_init_126 : decode cX8_init 126 = .ok (.return_, 1) := by decide +kernel
theorem dX8_set_0 : decode cX8_set 0 = .ok (.iload_n 1, 1) := by decide +kernel
theorem dX8_set_1 : decode cX8_set 1 = .ok (.ifCond .lt 11, 3) := by decide +kernel
theorem dX8_set_4 : decode cX8_set 4 = .ok (.iload_n 1, 1) := by decide +kernel
theorem dX8_set_5 : decode cX8_set 5 = .ok (.getstatic 62, 3) := by decide +kernel
theorem dX8_set_8 : decode cX8_set 8 = .ok (.arraylength, 1) := by decide +kernel
theorem dX8_set_9 : decode cX8_set 9 = .ok (.if_icmp .lt 6, 3) := by decide +kernel
theorem dX8_set_12 : decode cX8_set 12 = .ok (.bipush (-2), 2) := by decide +kernel
theorem dX8_set_14 : decode cX8_set 14 = .ok (.ireturn, 1) := by decide +kernel
theorem dX8_set_15 : decode cX8_set 15 = .ok (.iload_n 2, 1) := by decide +kernel
theorem dX8_set_16 : decode cX8_set 16 = .ok (.iconst 1, 1) := by decide +kernel
theorem dX8_set_17 : decode cX8_set 17 = .ok (.if_icmp .lt 12, 3) := by decide +kernel
theorem dX8_set_20 : decode cX8_set 20 = .ok (.iload_n 2, 1) := by decide +kernel
theorem dX8_set_21 : decode cX8_set 21 = .ok (.getstatic 62, 3) := by decide +kernel
theorem dX8_set_24 : decode cX8_set 24 = .ok (.iload_n 1, 1) := by decide +kernel
theorem dX8_set_25 : decode cX8_set 25 = .ok (.iaload, 1) := by decide +kernel
theorem dX8_set_26 : decode cX8_set 26 = .ok (.if_icmp .le 6, 3) := by decide +kernel
theorem dX8_set_29 : decode cX8_set 29 = .ok (.bipush (-2), 2) := by decide +kernel
theorem dX8_set_31 : decode cX8_set 31 = .ok (.ireturn, 1) := by decide +kernel
theorem dX8_set_32 : decode cX8_set 32 = .ok (.aload_n 0, 1) := by decide +kernel
theorem dX8_set_33 : decode cX8_set 33 = .ok (.getfield 30, 3) := by decide +kernel
theorem dX8_set_36 : decode cX8_set 36 = .ok (.aload_n 0, 1) := by decide +kernel
theorem dX8_set_37 : decode cX8_set 37 = .ok (.getfield 12, 3) := by decide +kernel
theorem dX8_set_40 : decode cX8_set 40 = .ok (.invokevirtual 66, 3) := by decide +kernel
theorem dX8_set_43 : decode cX8_set 43 = .ok (.aload_n 0, 1) := by decide +kernel
theorem dX8_set_44 : decode cX8_set 44 = .ok (.getfield 12, 3) := by decide +kernel
theorem dX8_set_47 : decode cX8_set 47 = .ok (.iload_n 1, 1) := by decide +kernel
theorem dX8_set_48 : decode cX8_set 48 = .ok (.invokevirtual 70, 3) := by decide +kernel
theorem dX8_set_51 : decode cX8_set 51 = .ok (.istore_n 3, 1) := by decide +kernel
theorem dX8_set_52 : decode cX8_set 52 = .ok (.aload_n 0, 1) := by decide +kernel
theorem dX8_set_53 : decode cX8_set 53 = .ok (.getfield 12, 3) := by decide +kernel
theorem dX8_set_56 : decode cX8_set 56 = .ok (.iload_n 1, 1) := by decide +kernel
theorem dX8_set_57 : decode cX8_set 57 = .ok (.iload_n 2, 1) := by decide +kernel
theorem dX8_set_58 : decode cX8_set 58 = .ok (.invokevirtual 74, 3) := by decide +kernel
theorem dX8_set_61 : decode cX8_set 61 = .ok (.iload_n 3, 1) := by decide +kernel
theorem dX8_set_62 : decode cX8_set 62 = .ok (.ireturn, 1) := by decide +kernel
theorem dX8_read_0 : decode cX8_read 0 = .ok (.aload_n 0, 1) := by decide +kernel
theorem dX8_read_1 : decode cX8_read 1 = .ok (.getfield 37, 3) := by decide +kernel
theorem dX8_read_4 : decode cX8_read 4 = .ok (.invokevirtual 78, 3) := by decide +kernel
theorem dX8_read_7 : decode cX8_read 7 = .ok (.bipush (-6), 2) := by decide +kernel
theorem dX8_read_9 : decode cX8_read 9 = .ok (.if_icmp .eq 6, 3) := by decide +kernel
theorem dX8_read_12 : decode cX8_read 12 = .ok (.bipush (-3), 2) := by decide +kernel
theorem dX8_read_14 : decode cX8_read 14 = .ok (.ireturn, 1) := by decide +kernel
theorem dX8_read_15 : decode cX8_read 15 = .ok (.aload_n 0, 1) := by decide +kernel
theorem dX8_read_16 : decode cX8_read 16 = .ok (.getfield 37, 3) := by decide +kernel
theorem dX8_read_19 : decode cX8_read 19 = .ok (.invokevirtual 82, 3) := by decide +kernel
theorem dX8_read_22 : decode cX8_read 22 = .ok (.iconst 1, 1) := by decide +kernel
theorem dX8_read_23 : decode cX8_read 23 = .ok (.iadd, 1) := by decide +kernel
theorem dX8_read_24 : decode cX8_read 24 = .ok (.sipush 150, 3) := by decide +kernel
theorem dX8_read_27 : decode cX8_read 27 = .ok (.if_icmp .le 6, 3) := by decide +kernel
theorem dX8_read_30 : decode cX8_read 30 = .ok (.bipush (-4), 2) := by decide +kernel
theorem dX8_read_32 : decode cX8_read 32 = .ok (.ireturn, 1) := by decide +kernel
theorem dX8_read_33 : decode cX8_read 33 = .ok (.aload_n 0, 1) := by decide +kernel
theorem dX8_read_34 : decode cX8_read 34 = .ok (.getfield 16, 3) := by decide +kernel
theorem dX8_read_37 : decode cX8_read 37 = .ok (.aload_n 0, 1) := by decide +kernel
theorem dX8_read_38 : decode cX8_read 38 = .ok (.getfield 12, 3) := by decide +kernel
theorem dX8_read_41 : decode cX8_read 41 = .ok (.invokevirtual 85, 3) := by decide +kernel
theorem dX8_read_44 : decode cX8_read 44 = .ok (.aload_n 0, 1) := by decide +kernel
theorem dX8_read_45 : decode cX8_read 45 = .ok (.getfield 16, 3) := by decide +kernel
theorem dX8_read_48 : decode cX8_read 48 = .ok (.invokevirtual 88, 3) := by decide +kernel
theorem dX8_read_51 : decode cX8_read 51 = .ok (.aload_n 0, 1) := by decide +kernel
theorem dX8_read_52 : decode cX8_read 52 = .ok (.getfield 37, 3) := by decide +kernel
theorem dX8_read_55 : decode cX8_read 55 = .ok (.aload_n 0, 1) := by decide +kernel
theorem dX8_read_56 : decode cX8_read 56 = .ok (.getfield 16, 3) := by decide +kernel
theorem dX8_read_59 : decode cX8_read 59 = .ok (.getfield 91, 3) := by decide +kernel
theorem dX8_read_62 : decode cX8_read 62 = .ok (.invokevirtual 95, 3) := by decide +kernel
theorem dX8_read_65 : decode cX8_read 65 = .ok (.ifCond .ne 6, 3) := by decide +kernel
theorem dX8_read_68 : decode cX8_read 68 = .ok (.bipush (-5), 2) := by decide +kernel
theorem dX8_read_70 : decode cX8_read 70 = .ok (.ireturn, 1) := by decide +kernel
theorem dX8_read_71 : decode cX8_read 71 = .ok (.aload_n 0, 1) := by decide +kernel
theorem dX8_read_72 : decode cX8_read 72 = .ok (.getfield 30, 3) := by decide +kernel
theorem dX8_read_75 : decode cX8_read 75 = .ok (.aload_n 0, 1) := by decide +kernel
theorem dX8_read_76 : decode cX8_read 76 = .ok (.getfield 12, 3) := by decide +kernel
theorem dX8_read_79 : decode cX8_read 79 = .ok (.invokevirtual 66, 3) := by decide +kernel
theorem dX8_read_82 : decode cX8_read 82 = .ok (.aload_n 0, 1) := by decide +kernel
theorem dX8_read_83 : decode cX8_read 83 = .ok (.getfield 12, 3) := by decide +kernel
theorem dX8_read_86 : decode cX8_read 86 = .ok (.aload_n 0, 1) := by decide +kernel
theorem dX8_read_87 : decode cX8_read 87 = .ok (.getfield 16, 3) := by decide +kernel
theorem dX8_read_90 : decode cX8_read 90 = .ok (.invokevirtual 85, 3) := by decide +kernel
theorem dX8_read_93 : decode cX8_read 93 = .ok (.aload_n 0, 1) := by decide +kernel
theorem dX8_read_94 : decode cX8_read 94 = .ok (.getfield 37, 3) := by decide +kernel
theorem dX8_read_97 : decode cX8_read 97 = .ok (.invokevirtual 99, 3) := by decide +kernel
theorem dX8_read_100 : decode cX8_read 100 = .ok (.aload_n 0, 1) := by decide +kernel
theorem dX8_read_101 : decode cX8_read 101 = .ok (.getfield 12, 3) := by decide +kernel
theorem dX8_read_104 : decode cX8_read 104 = .ok (.getfield 91, 3) := by decide +kernel
theorem dX8_read_107 : decode cX8_read 107 = .ok (.invokevirtual 102, 3) := by decide +kernel
theorem dX8_read_110 : decode cX8_read 110 = .ok (.ireturn, 1) := by decide +kernel
theorem dX8_dike_0 : decode cX8_dike 0 = .ok (.iload_n 1, 1) := by decide +kernel
theorem dX8_dike_1 : decode cX8_dike 1 = .ok (.iload_n 2, 1) := by decide +kernel
theorem dX8_dike_2 : decode cX8_dike 2 = .ok (.invokestatic 107, 3) := by decide +kernel
theorem dX8_dike_5 : decode cX8_dike 5 = .ok (.istore 4, 2) := by decide +kernel
theorem dX8_dike_7 : decode cX8_dike 7 = .ok (.iload 4, 2) := by decide +kernel
theorem dX8_dike_9 : decode cX8_dike 9 = .ok (.iconst (-1), 1) := by decide +kernel
theorem dX8_dike_10 : decode cX8_dike 10 = .ok (.if_icmp .ne 5, 3) := by decide +kernel
theorem dX8_dike_13 : decode cX8_dike 13 = .ok (.iconst (-1), 1) := by decide +kernel
theorem dX8_dike_14 : decode cX8_dike 14 = .ok (.ireturn, 1) := by decide +kernel
theorem dX8_dike_15 : decode cX8_dike 15 = .ok (.aload_n 0, 1) := by decide +kernel
theorem dX8_dike_16 : decode cX8_dike 16 = .ok (.getfield 12, 3) := by decide +kernel
theorem dX8_dike_19 : decode cX8_dike 19 = .ok (.getfield 91, 3) := by decide +kernel
theorem dX8_dike_22 : decode cX8_dike 22 = .ok (.iload 4, 2) := by decide +kernel
theorem dX8_dike_24 : decode cX8_dike 24 = .ok (.invokevirtual 111, 3) := by decide +kernel
theorem dX8_dike_27 : decode cX8_dike 27 = .ok (.iconst (-1), 1) := by decide +kernel
theorem dX8_dike_28 : decode cX8_dike 28 = .ok (.if_icmp .ne 16, 3) := by decide +kernel
theorem dX8_dike_31 : decode cX8_dike 31 = .ok (.aload_n 0, 1) := by decide +kernel
theorem dX8_dike_32 : decode cX8_dike 32 = .ok (.getfield 12, 3) := by decide +kernel
theorem dX8_dike_35 : decode cX8_dike 35 = .ok (.iload 4, 2) := by decide +kernel
theorem dX8_dike_37 : decode cX8_dike 37 = .ok (.invokevirtual 114, 3) := by decide +kernel
theorem dX8_dike_40 : decode cX8_dike 40 = .ok (.iload_n 3, 1) := by decide +kernel
theorem dX8_dike_41 : decode cX8_dike 41 = .ok (.if_icmp .ne 6, 3) := by decide +kernel
theorem dX8_dike_44 : decode cX8_dike 44 = .ok (.bipush (-5), 2) := by decide +kernel
theorem dX8_dike_46 : decode cX8_dike 46 = .ok (.ireturn, 1) := by decide +kernel
theorem dX8_dike_47 : decode cX8_dike 47 = .ok (.aload_n 0, 1) := by decide +kernel
theorem dX8_dike_48 : decode cX8_dike 48 = .ok (.getfield 30, 3) := by decide +kernel
theorem dX8_dike_51 : decode cX8_dike 51 = .ok (.aload_n 0, 1) := by decide +kernel
theorem dX8_dike_52 : decode cX8_dike 52 = .ok (.getfield 12, 3) := by decide +kernel
theorem dX8_dike_55 : decode cX8_dike 55 = .ok (.invokevirtual 66, 3) := by decide +kernel
theorem dX8_dike_58 : decode cX8_dike 58 = .ok (.aload_n 0, 1) := by decide +kernel
theorem dX8_dike_59 : decode cX8_dike 59 = .ok (.getfield 12, 3) := by decide +kernel
theorem dX8_dike_62 : decode cX8_dike 62 = .ok (.iload 4, 2) := by decide +kernel
theorem dX8_dike_64 : decode cX8_dike 64 = .ok (.iload_n 3, 1) := by decide +kernel
theorem dX8_dike_65 : decode cX8_dike 65 = .ok (.invokevirtual 118, 3) := by decide +kernel
theorem dX8_dike_68 : decode cX8_dike 68 = .ok (.aload_n 0, 1) := by decide +kernel
theorem dX8_dike_69 : decode cX8_dike 69 = .ok (.getfield 12, 3) := by decide +kernel
theorem dX8_dike_72 : decode cX8_dike 72 = .ok (.invokevirtual 122, 3) := by decide +kernel
theorem dX8_dike_75 : decode cX8_dike 75 = .ok (.ireturn, 1) := by decide +kernel
theorem dX8_flood_0 : decode cX8_flood 0 = .ok (.iload_n 1, 1) := by decide +kernel
theorem dX8_flood_1 : decode cX8_flood 1 = .ok (.aload_n 0, 1) := by decide +kernel
theorem dX8_flood_2 : decode cX8_flood 2 = .ok (.getfield 12, 3) := by decide +kernel
theorem dX8_flood_5 : decode cX8_flood 5 = .ok (.getfield 125, 3) := by decide +kernel
theorem dX8_flood_8 : decode cX8_flood 8 = .ok (.if_icmp .lt 10, 3) := by decide +kernel
theorem dX8_flood_11 : decode cX8_flood 11 = .ok (.iload_n 1, 1) := by decide +kernel
theorem dX8_flood_12 : decode cX8_flood 12 = .ok (.sipush 999, 3) := by decide +kernel
theorem dX8_flood_15 : decode cX8_flood 15 = .ok (.if_icmp .le 6, 3) := by decide +kernel
theorem dX8_flood_18 : decode cX8_flood 18 = .ok (.bipush (-2), 2) := by decide +kernel
theorem dX8_flood_20 : decode cX8_flood 20 = .ok (.ireturn, 1) := by decide +kernel
theorem dX8_flood_21 : decode cX8_flood 21 = .ok (.aload_n 0, 1) := by decide +kernel
theorem dX8_flood_22 : decode cX8_flood 22 = .ok (.getfield 12, 3) := by decide +kernel
theorem dX8_flood_25 : decode cX8_flood 25 = .ok (.iload_n 1, 1) := by decide +kernel
theorem dX8_flood_26 : decode cX8_flood 26 = .ok (.invokevirtual 129, 3) := by decide +kernel
theorem dX8_flood_29 : decode cX8_flood 29 = .ok (.iload_n 2, 1) := by decide +kernel
theorem dX8_flood_30 : decode cX8_flood 30 = .ok (.if_icmp .ne 6, 3) := by decide +kernel
theorem dX8_flood_33 : decode cX8_flood 33 = .ok (.bipush (-5), 2) := by decide +kernel
theorem dX8_flood_35 : decode cX8_flood 35 = .ok (.ireturn, 1) := by decide +kernel
theorem dX8_flood_36 : decode cX8_flood 36 = .ok (.iload_n 2, 1) := by decide +kernel
theorem dX8_flood_37 : decode cX8_flood 37 = .ok (.ifCond .eq 18, 3) := by decide +kernel
theorem dX8_flood_40 : decode cX8_flood 40 = .ok (.aload_n 0, 1) := by decide +kernel
theorem dX8_flood_41 : decode cX8_flood 41 = .ok (.getfield 12, 3) := by decide +kernel
theorem dX8_flood_44 : decode cX8_flood 44 = .ok (.getfield 132, 3) := by decide +kernel
theorem dX8_flood_47 : decode cX8_flood 47 = .ok (.bipush 8, 2) := by decide +kernel
theorem dX8_flood_49 : decode cX8_flood 49 = .ok (.if_icmp .lt 6, 3) := by decide +kernel
theorem dX8_flood_52 : decode cX8_flood 52 = .ok (.bipush (-4), 2) := by decide +kernel
theorem dX8_flood_54 : decode cX8_flood 54 = .ok (.ireturn, 1) := by decide +kernel
theorem dX8_flood_55 : decode cX8_flood 55 = .ok (.aload_n 0, 1) := by decide +kernel
theorem dX8_flood_56 : decode cX8_flood 56 = .ok (.getfield 30, 3) := by decide +kernel
theorem dX8_flood_59 : decode cX8_flood 59 = .ok (.aload_n 0, 1) := by decide +kernel
theorem dX8_flood_60 : decode cX8_flood 60 = .ok (.getfield 12, 3) := by decide +kernel
theorem dX8_flood_63 : decode cX8_flood 63 = .ok (.invokevirtual 66, 3) := by decide +kernel
theorem dX8_flood_66 : decode cX8_flood 66 = .ok (.aload_n 0, 1) := by decide +kernel
theorem dX8_flood_67 : decode cX8_flood 67 = .ok (.getfield 12, 3) := by decide +kernel
theorem dX8_flood_70 : decode cX8_flood 70 = .ok (.iload_n 1, 1) := by decide +kernel
theorem dX8_flood_71 : decode cX8_flood 71 = .ok (.iload_n 2, 1) := by decide +kernel
theorem dX8_flood_72 : decode cX8_flood 72 = .ok (.invokevirtual 135, 3) := by decide +kernel
theorem dX8_flood_75 : decode cX8_flood 75 = .ok (.aload_n 0, 1) := by decide +kernel
theorem dX8_flood_76 : decode cX8_flood 76 = .ok (.getfield 12, 3) := by decide +kernel
theorem dX8_flood_79 : decode cX8_flood 79 = .ok (.getfield 132, 3) := by decide +kernel
theorem dX8_flood_82 : decode cX8_flood 82 = .ok (.ireturn, 1) := by decide +kernel
theorem dX8_cut_0 : decode cX8_cut 0 = .ok (.aload_n 0, 1) := by decide +kernel
theorem dX8_cut_1 : decode cX8_cut 1 = .ok (.getfield 58, 3) := by decide +kernel
theorem dX8_cut_4 : decode cX8_cut 4 = .ok (.aload_n 0, 1) := by decide +kernel
theorem dX8_cut_5 : decode cX8_cut 5 = .ok (.getfield 12, 3) := by decide +kernel
theorem dX8_cut_8 : decode cX8_cut 8 = .ok (.getfield 91, 3) := by decide +kernel
theorem dX8_cut_11 : decode cX8_cut 11 = .ok (.iload_n 1, 1) := by decide +kernel
theorem dX8_cut_12 : decode cX8_cut 12 = .ok (.invokevirtual 138, 3) := by decide +kernel
theorem dX8_cut_15 : decode cX8_cut 15 = .ok (.ifCond .ne 5, 3) := by decide +kernel
theorem dX8_cut_18 : decode cX8_cut 18 = .ok (.iconst (-1), 1) := by decide +kernel
theorem dX8_cut_19 : decode cX8_cut 19 = .ok (.ireturn, 1) := by decide +kernel
theorem dX8_cut_20 : decode cX8_cut 20 = .ok (.aload_n 0, 1) := by decide +kernel
theorem dX8_cut_21 : decode cX8_cut 21 = .ok (.getfield 30, 3) := by decide +kernel
theorem dX8_cut_24 : decode cX8_cut 24 = .ok (.aload_n 0, 1) := by decide +kernel
theorem dX8_cut_25 : decode cX8_cut 25 = .ok (.getfield 12, 3) := by decide +kernel
theorem dX8_cut_28 : decode cX8_cut 28 = .ok (.invokevirtual 66, 3) := by decide +kernel
theorem dX8_cut_31 : decode cX8_cut 31 = .ok (.aload_n 0, 1) := by decide +kernel
theorem dX8_cut_32 : decode cX8_cut 32 = .ok (.getfield 12, 3) := by decide +kernel
theorem dX8_cut_35 : decode cX8_cut 35 = .ok (.aload_n 0, 1) := by decide +kernel
theorem dX8_cut_36 : decode cX8_cut 36 = .ok (.getfield 58, 3) := by decide +kernel
theorem dX8_cut_39 : decode cX8_cut 39 = .ok (.getfield 142, 3) := by decide +kernel
theorem dX8_cut_42 : decode cX8_cut 42 = .ok (.aload_n 0, 1) := by decide +kernel
theorem dX8_cut_43 : decode cX8_cut 43 = .ok (.getfield 58, 3) := by decide +kernel
theorem dX8_cut_46 : decode cX8_cut 46 = .ok (.getfield 145, 3) := by decide +kernel
theorem dX8_cut_49 : decode cX8_cut 49 = .ok (.invokevirtual 148, 3) := by decide +kernel
theorem dX8_cut_52 : decode cX8_cut 52 = .ok (.aload_n 0, 1) := by decide +kernel
theorem dX8_cut_53 : decode cX8_cut 53 = .ok (.getfield 12, 3) := by decide +kernel
theorem dX8_cut_56 : decode cX8_cut 56 = .ok (.getfield 91, 3) := by decide +kernel
theorem dX8_cut_59 : decode cX8_cut 59 = .ok (.invokevirtual 102, 3) := by decide +kernel
theorem dX8_cut_62 : decode cX8_cut 62 = .ok (.ireturn, 1) := by decide +kernel
theorem dX8_pass_0 : decode cX8_pass 0 = .ok (.iload_n 1, 1) := by decide +kernel
theorem dX8_pass_1 : decode cX8_pass 1 = .ok (.iconst 1, 1) := by decide +kernel
theorem dX8_pass_2 : decode cX8_pass 2 = .ok (.if_icmp .lt 9, 3) := by decide +kernel
theorem dX8_pass_5 : decode cX8_pass 5 = .ok (.iload_n 1, 1) := by decide +kernel
theorem dX8_pass_6 : decode cX8_pass 6 = .ok (.bipush 50, 2) := by decide +kernel
theorem dX8_pass_8 : decode cX8_pass 8 = .ok (.if_icmp .le 6, 3) := by decide +kernel
theorem dX8_pass_11 : decode cX8_pass 11 = .ok (.bipush (-2), 2) := by decide +kernel
theorem dX8_pass_13 : decode cX8_pass 13 = .ok (.ireturn, 1) := by decide +kernel
theorem dX8_pass_14 : decode cX8_pass 14 = .ok (.aload_n 0, 1) := by decide +kernel
theorem dX8_pass_15 : decode cX8_pass 15 = .ok (.getfield 12, 3) := by decide +kernel
theorem dX8_pass_18 : decode cX8_pass 18 = .ok (.getfield 125, 3) := by decide +kernel
theorem dX8_pass_21 : decode cX8_pass 21 = .ok (.iload_n 1, 1) := by decide +kernel
theorem dX8_pass_22 : decode cX8_pass 22 = .ok (.iadd, 1) := by decide +kernel
theorem dX8_pass_23 : decode cX8_pass 23 = .ok (.sipush 999, 3) := by decide +kernel
theorem dX8_pass_26 : decode cX8_pass 26 = .ok (.if_icmp .le 6, 3) := by decide +kernel
theorem dX8_pass_29 : decode cX8_pass 29 = .ok (.bipush (-4), 2) := by decide +kernel
theorem dX8_pass_31 : decode cX8_pass 31 = .ok (.ireturn, 1) := by decide +kernel
theorem dX8_pass_32 : decode cX8_pass 32 = .ok (.aload_n 0, 1) := by decide +kernel
theorem dX8_pass_33 : decode cX8_pass 33 = .ok (.getfield 30, 3) := by decide +kernel
theorem dX8_pass_36 : decode cX8_pass 36 = .ok (.aload_n 0, 1) := by decide +kernel
theorem dX8_pass_37 : decode cX8_pass 37 = .ok (.getfield 12, 3) := by decide +kernel
theorem dX8_pass_40 : decode cX8_pass 40 = .ok (.invokevirtual 66, 3) := by decide +kernel
theorem dX8_pass_43 : decode cX8_pass 43 = .ok (.aload_n 0, 1) := by decide +kernel
theorem dX8_pass_44 : decode cX8_pass 44 = .ok (.getfield 12, 3) := by decide +kernel
theorem dX8_pass_47 : decode cX8_pass 47 = .ok (.getfield 151, 3) := by decide +kernel
theorem dX8_pass_50 : decode cX8_pass 50 = .ok (.istore_n 2, 1) := by decide +kernel
theorem dX8_pass_51 : decode cX8_pass 51 = .ok (.iconst 0, 1) := by decide +kernel
theorem dX8_pass_52 : decode cX8_pass 52 = .ok (.istore_n 3, 1) := by decide +kernel
theorem dX8_pass_53 : decode cX8_pass 53 = .ok (.iload_n 3, 1) := by decide +kernel
theorem dX8_pass_54 : decode cX8_pass 54 = .ok (.iload_n 1, 1) := by decide +kernel
theorem dX8_pass_55 : decode cX8_pass 55 = .ok (.if_icmp .ge 20, 3) := by decide +kernel
theorem dX8_pass_58 : decode cX8_pass 58 = .ok (.aload_n 0, 1) := by decide +kernel
theorem dX8_pass_59 : decode cX8_pass 59 = .ok (.getfield 44, 3) := by decide +kernel
theorem dX8_pass_62 : decode cX8_pass 62 = .ok (.aload_n 0, 1) := by decide +kernel
theorem dX8_pass_63 : decode cX8_pass 63 = .ok (.getfield 12, 3) := by decide +kernel
theorem dX8_pass_66 : decode cX8_pass 66 = .ok (.invokevirtual 154, 3) := by decide +kernel
theorem dX8_pass_69 : decode cX8_pass 69 = .ok (.iinc 3 1, 3) := by decide +kernel
theorem dX8_pass_72 : decode cX8_pass 72 = .ok (.goto (-19), 3) := by decide +kernel
theorem dX8_pass_75 : decode cX8_pass 75 = .ok (.aload_n 0, 1) := by decide +kernel
theorem dX8_pass_76 : decode cX8_pass 76 = .ok (.getfield 12, 3) := by decide +kernel
theorem dX8_pass_79 : decode cX8_pass 79 = .ok (.getfield 151, 3) := by decide +kernel
theorem dX8_pass_82 : decode cX8_pass 82 = .ok (.iload_n 2, 1) := by decide +kernel
theorem dX8_pass_83 : decode cX8_pass 83 = .ok (.isub, 1) := by decide +kernel
theorem dX8_pass_84 : decode cX8_pass 84 = .ok (.ireturn, 1) := by decide +kernel
theorem dX8_cell_0 : decode cX8_cell 0 = .ok (.iload_n 1, 1) := by decide +kernel
theorem dX8_cell_1 : decode cX8_cell 1 = .ok (.iload_n 2, 1) := by decide +kernel
theorem dX8_cell_2 : decode cX8_cell 2 = .ok (.invokestatic 107, 3) := by decide +kernel
theorem dX8_cell_5 : decode cX8_cell 5 = .ok (.istore 4, 2) := by decide +kernel
theorem dX8_cell_7 : decode cX8_cell 7 = .ok (.iload 4, 2) := by decide +kernel
theorem dX8_cell_9 : decode cX8_cell 9 = .ok (.iconst (-1), 1) := by decide +kernel
theorem dX8_cell_10 : decode cX8_cell 10 = .ok (.if_icmp .ne 5, 3) := by decide +kernel
theorem dX8_cell_13 : decode cX8_cell 13 = .ok (.iconst (-1), 1) := by decide +kernel
theorem dX8_cell_14 : decode cX8_cell 14 = .ok (.ireturn, 1) := by decide +kernel
theorem dX8_cell_15 : decode cX8_cell 15 = .ok (.iload_n 3, 1) := by decide +kernel
theorem dX8_cell_16 : decode cX8_cell 16 = .ok (.tableswitch 87 0 3 #[32, 48, 58, 71], 32) := by decide +kernel
theorem dX8_cell_48 : decode cX8_cell 48 = .ok (.aload_n 0, 1) := by decide +kernel
theorem dX8_cell_49 : decode cX8_cell 49 = .ok (.getfield 12, 3) := by decide +kernel
theorem dX8_cell_52 : decode cX8_cell 52 = .ok (.getfield 91, 3) := by decide +kernel
theorem dX8_cell_55 : decode cX8_cell 55 = .ok (.iload 4, 2) := by decide +kernel
theorem dX8_cell_57 : decode cX8_cell 57 = .ok (.invokevirtual 111, 3) := by decide +kernel
theorem dX8_cell_60 : decode cX8_cell 60 = .ok (.invokestatic 157, 3) := by decide +kernel
theorem dX8_cell_63 : decode cX8_cell 63 = .ok (.ireturn, 1) := by decide +kernel
theorem dX8_cell_64 : decode cX8_cell 64 = .ok (.aload_n 0, 1) := by decide +kernel
theorem dX8_cell_65 : decode cX8_cell 65 = .ok (.getfield 12, 3) := by decide +kernel
theorem dX8_cell_68 : decode cX8_cell 68 = .ok (.iload 4, 2) := by decide +kernel
theorem dX8_cell_70 : decode cX8_cell 70 = .ok (.invokevirtual 160, 3) := by decide +kernel
theorem dX8_cell_73 : decode cX8_cell 73 = .ok (.ireturn, 1) := by decide +kernel
theorem dX8_cell_74 : decode cX8_cell 74 = .ok (.aload_n 0, 1) := by decide +kernel
theorem dX8_cell_75 : decode cX8_cell 75 = .ok (.getfield 12, 3) := by decide +kernel
theorem dX8_cell_78 : decode cX8_cell 78 = .ok (.iload 4, 2) := by decide +kernel
theorem dX8_cell_80 : decode cX8_cell 80 = .ok (.invokevirtual 114, 3) := by decide +kernel
theorem dX8_cell_83 : decode cX8_cell 83 = .ok (.invokestatic 163, 3) := by decide +kernel
theorem dX8_cell_86 : decode cX8_cell 86 = .ok (.ireturn, 1) := by decide +kernel
theorem dX8_cell_87 : decode cX8_cell 87 = .ok (.aload_n 0, 1) := by decide +kernel
theorem dX8_cell_88 : decode cX8_cell 88 = .ok (.getfield 12, 3) := by decide +kernel
theorem dX8_cell_91 : decode cX8_cell 91 = .ok (.getfield 167, 3) := by decide +kernel
theorem dX8_cell_94 : decode cX8_cell 94 = .ok (.iload 4, 2) := by decide +kernel
theorem dX8_cell_96 : decode cX8_cell 96 = .ok (.invokevirtual 171, 3) := by decide +kernel
theorem dX8_cell_99 : decode cX8_cell 99 = .ok (.invokestatic 157, 3) := by decide +kernel
theorem dX8_cell_102 : decode cX8_cell 102 = .ok (.ireturn, 1) := by decide +kernel
theorem dX8_cell_103 : decode cX8_cell 103 = .ok (.bipush (-2), 2) := by decide +kernel
theorem dX8_cell_105 : decode cX8_cell 105 = .ok (.ireturn, 1) := by decide +kernel
theorem dX8_course_0 : decode cX8_course 0 = .ok (.aload_n 0, 1) := by decide +kernel
theorem dX8_course_1 : decode cX8_course 1 = .ok (.getfield 12, 3) := by decide +kernel
theorem dX8_course_4 : decode cX8_course 4 = .ok (.getfield 91, 3) := by decide +kernel
theorem dX8_course_7 : decode cX8_course 7 = .ok (.iload_n 1, 1) := by decide +kernel
theorem dX8_course_8 : decode cX8_course 8 = .ok (.invokevirtual 176, 3) := by decide +kernel
theorem dX8_course_11 : decode cX8_course 11 = .ok (.istore_n 3, 1) := by decide +kernel
theorem dX8_course_12 : decode cX8_course 12 = .ok (.iload_n 3, 1) := by decide +kernel
theorem dX8_course_13 : decode cX8_course 13 = .ok (.iconst (-1), 1) := by decide +kernel
theorem dX8_course_14 : decode cX8_course 14 = .ok (.if_icmp .ne 5, 3) := by decide +kernel
theorem dX8_course_17 : decode cX8_course 17 = .ok (.iconst (-1), 1) := by decide +kernel
theorem dX8_course_18 : decode cX8_course 18 = .ok (.ireturn, 1) := by decide +kernel
theorem dX8_course_19 : decode cX8_course 19 = .ok (.iload_n 2, 1) := by decide +kernel
theorem dX8_course_20 : decode cX8_course 20 = .ok (.tableswitch 53 0 2 #[28, 33, 38], 28) := by decide +kernel
theorem dX8_course_48 : decode cX8_course 48 = .ok (.iload_n 3, 1) := by decide +kernel
theorem dX8_course_49 : decode cX8_course 49 = .ok (.bipush 20, 2) := by decide +kernel
theorem dX8_course_51 : decode cX8_course 51 = .ok (.irem, 1) := by decide +kernel
theorem dX8_course_52 : decode cX8_course 52 = .ok (.ireturn, 1) := by decide +kernel
theorem dX8_course_53 : decode cX8_course 53 = .ok (.iload_n 3, 1) := by decide +kernel
theorem dX8_course_54 : decode cX8_course 54 = .ok (.bipush 20, 2) := by decide +kernel
theorem dX8_course_56 : decode cX8_course 56 = .ok (.idiv, 1) := by decide +kernel
theorem dX8_course_57 : decode cX8_course 57 = .ok (.ireturn, 1) := by decide +kernel
theorem dX8_course_58 : decode cX8_course 58 = .ok (.aload_n 0, 1) := by decide +kernel
theorem dX8_course_59 : decode cX8_course 59 = .ok (.getfield 12, 3) := by decide +kernel
theorem dX8_course_62 : decode cX8_course 62 = .ok (.getfield 91, 3) := by decide +kernel
theorem dX8_course_65 : decode cX8_course 65 = .ok (.iload_n 1, 1) := by decide +kernel
theorem dX8_course_66 : decode cX8_course 66 = .ok (.invokevirtual 179, 3) := by decide +kernel
theorem dX8_course_69 : decode cX8_course 69 = .ok (.invokestatic 157, 3) := by decide +kernel
theorem dX8_course_72 : decode cX8_course 72 = .ok (.ireturn, 1) := by decide +kernel
theorem dX8_course_73 : decode cX8_course 73 = .ok (.bipush (-2), 2) := by decide +kernel
theorem dX8_course_75 : decode cX8_course 75 = .ok (.ireturn, 1) := by decide +kernel
theorem dX8_bend_0 : decode cX8_bend 0 = .ok (.aload_n 0, 1) := by decide +kernel
theorem dX8_bend_1 : decode cX8_bend 1 = .ok (.getfield 51, 3) := by decide +kernel
theorem dX8_bend_4 : decode cX8_bend 4 = .ok (.aload_n 0, 1) := by decide +kernel
theorem dX8_bend_5 : decode cX8_bend 5 = .ok (.getfield 12, 3) := by decide +kernel
theorem dX8_bend_8 : decode cX8_bend 8 = .ok (.getfield 91, 3) := by decide +kernel
theorem dX8_bend_11 : decode cX8_bend 11 = .ok (.iload_n 1, 1) := by decide +kernel
theorem dX8_bend_12 : decode cX8_bend 12 = .ok (.invokevirtual 182, 3) := by decide +kernel
theorem dX8_bend_15 : decode cX8_bend 15 = .ok (.ifCond .ne 5, 3) := by decide +kernel
theorem dX8_bend_18 : decode cX8_bend 18 = .ok (.iconst (-1), 1) := by decide +kernel
theorem dX8_bend_19 : decode cX8_bend 19 = .ok (.ireturn, 1) := by decide +kernel
theorem dX8_bend_20 : decode cX8_bend 20 = .ok (.iload_n 2, 1) := by decide +kernel
theorem dX8_bend_21 : decode cX8_bend 21 = .ok (.tableswitch 124 0 5 #[39, 47, 55, 63, 78, 109], 39) := by decide +kernel
theorem dX8_bend_60 : decode cX8_bend 60 = .ok (.aload_n 0, 1) := by decide +kernel
theorem dX8_bend_61 : decode cX8_bend 61 = .ok (.getfield 51, 3) := by decide +kernel
theorem dX8_bend_64 : decode cX8_bend 64 = .ok (.getfield 183, 3) := by decide +kernel
theorem dX8_bend_67 : decode cX8_bend 67 = .ok (.ireturn, 1) := by decide +kernel
theorem dX8_bend_68 : decode cX8_bend 68 = .ok (.aload_n 0, 1) := by decide +kernel
theorem dX8_bend_69 : decode cX8_bend 69 = .ok (.getfield 51, 3) := by decide +kernel
theorem dX8_bend_72 : decode cX8_bend 72 = .ok (.getfield 186, 3) := by decide +kernel
theorem dX8_bend_75 : decode cX8_bend 75 = .ok (.ireturn, 1) := by decide +kernel
theorem dX8_bend_76 : decode cX8_bend 76 = .ok (.aload_n 0, 1) := by decide +kernel
theorem dX8_bend_77 : decode cX8_bend 77 = .ok (.getfield 51, 3) := by decide +kernel
theorem dX8_bend_80 : decode cX8_bend 80 = .ok (.getfield 189, 3) := by decide +kernel
theorem dX8_bend_83 : decode cX8_bend 83 = .ok (.ireturn, 1) := by decide +kernel
theorem dX8_bend_84 : decode cX8_bend 84 = .ok (.aload_n 0, 1) := by decide +kernel
theorem dX8_bend_85 : decode cX8_bend 85 = .ok (.getfield 12, 3) := by decide +kernel
theorem dX8_bend_88 : decode cX8_bend 88 = .ok (.aload_n 0, 1) := by decide +kernel
theorem dX8_bend_89 : decode cX8_bend 89 = .ok (.getfield 51, 3) := by decide +kernel
theorem dX8_bend_92 : decode cX8_bend 92 = .ok (.invokevirtual 192, 3) := by decide +kernel
theorem dX8_bend_95 : decode cX8_bend 95 = .ok (.invokestatic 163, 3) := by decide +kernel
theorem dX8_bend_98 : decode cX8_bend 98 = .ok (.ireturn, 1) := by decide +kernel
theorem dX8_bend_99 : decode cX8_bend 99 = .ok (.aload_n 0, 1) := by decide +kernel
theorem dX8_bend_100 : decode cX8_bend 100 = .ok (.getfield 12, 3) := by decide +kernel
theorem dX8_bend_103 : decode cX8_bend 103 = .ok (.aload_n 0, 1) := by decide +kernel
theorem dX8_bend_104 : decode cX8_bend 104 = .ok (.getfield 51, 3) := by decide +kernel
theorem dX8_bend_107 : decode cX8_bend 107 = .ok (.invokevirtual 192, 3) := by decide +kernel
theorem dX8_bend_110 : decode cX8_bend 110 = .ok (.ifCond .eq 8, 3) := by decide +kernel
theorem dX8_bend_113 : decode cX8_bend 113 = .ok (.bipush (-6), 2) := by decide +kernel
theorem dX8_bend_115 : decode cX8_bend 115 = .ok (.goto 14, 3) := by decide +kernel
theorem dX8_bend_118 : decode cX8_bend 118 = .ok (.aload_n 0, 1) := by decide +kernel
theorem dX8_bend_119 : decode cX8_bend 119 = .ok (.getfield 12, 3) := by decide +kernel
theorem dX8_bend_122 : decode cX8_bend 122 = .ok (.aload_n 0, 1) := by decide +kernel
theorem dX8_bend_123 : decode cX8_bend 123 = .ok (.getfield 51, 3) := by decide +kernel
theorem dX8_bend_126 : decode cX8_bend 126 = .ok (.invokevirtual 196, 3) := by decide +kernel
theorem dX8_bend_129 : decode cX8_bend 129 = .ok (.ireturn, 1) := by decide +kernel
theorem dX8_bend_130 : decode cX8_bend 130 = .ok (.aload_n 0, 1) := by decide +kernel
theorem dX8_bend_131 : decode cX8_bend 131 = .ok (.getfield 12, 3) := by decide +kernel
theorem dX8_bend_134 : decode cX8_bend 134 = .ok (.aload_n 0, 1) := by decide +kernel
theorem dX8_bend_135 : decode cX8_bend 135 = .ok (.getfield 51, 3) := by decide +kernel
theorem dX8_bend_138 : decode cX8_bend 138 = .ok (.invokevirtual 200, 3) := by decide +kernel
theorem dX8_bend_141 : decode cX8_bend 141 = .ok (.invokestatic 163, 3) := by decide +kernel
theorem dX8_bend_144 : decode cX8_bend 144 = .ok (.ireturn, 1) := by decide +kernel
theorem dX8_bend_145 : decode cX8_bend 145 = .ok (.bipush (-2), 2) := by decide +kernel
theorem dX8_bend_147 : decode cX8_bend 147 = .ok (.ireturn, 1) := by decide +kernel
theorem dX8_neck_0 : decode cX8_neck 0 = .ok (.aload_n 0, 1) := by decide +kernel
theorem dX8_neck_1 : decode cX8_neck 1 = .ok (.getfield 58, 3) := by decide +kernel
theorem dX8_neck_4 : decode cX8_neck 4 = .ok (.aload_n 0, 1) := by decide +kernel
theorem dX8_neck_5 : decode cX8_neck 5 = .ok (.getfield 12, 3) := by decide +kernel
theorem dX8_neck_8 : decode cX8_neck 8 = .ok (.getfield 91, 3) := by decide +kernel
theorem dX8_neck_11 : decode cX8_neck 11 = .ok (.iload_n 1, 1) := by decide +kernel
theorem dX8_neck_12 : decode cX8_neck 12 = .ok (.invokevirtual 138, 3) := by decide +kernel
theorem dX8_neck_15 : decode cX8_neck 15 = .ok (.ifCond .ne 5, 3) := by decide +kernel
theorem dX8_neck_18 : decode cX8_neck 18 = .ok (.iconst (-1), 1) := by decide +kernel
theorem dX8_neck_19 : decode cX8_neck 19 = .ok (.ireturn, 1) := by decide +kernel
theorem dX8_neck_20 : decode cX8_neck 20 = .ok (.iload_n 2, 1) := by decide +kernel
theorem dX8_neck_21 : decode cX8_neck 21 = .ok (.tableswitch 65 0 2 #[27, 35, 43], 27) := by decide +kernel
theorem dX8_neck_48 : decode cX8_neck 48 = .ok (.aload_n 0, 1) := by decide +kernel
theorem dX8_neck_49 : decode cX8_neck 49 = .ok (.getfield 58, 3) := by decide +kernel
theorem dX8_neck_52 : decode cX8_neck 52 = .ok (.getfield 142, 3) := by decide +kernel
theorem dX8_neck_55 : decode cX8_neck 55 = .ok (.ireturn, 1) := by decide +kernel
theorem dX8_neck_56 : decode cX8_neck 56 = .ok (.aload_n 0, 1) := by decide +kernel
theorem dX8_neck_57 : decode cX8_neck 57 = .ok (.getfield 58, 3) := by decide +kernel
theorem dX8_neck_60 : decode cX8_neck 60 = .ok (.getfield 145, 3) := by decide +kernel
theorem dX8_neck_63 : decode cX8_neck 63 = .ok (.ireturn, 1) := by decide +kernel
theorem dX8_neck_64 : decode cX8_neck 64 = .ok (.aload_n 0, 1) := by decide +kernel
theorem dX8_neck_65 : decode cX8_neck 65 = .ok (.getfield 12, 3) := by decide +kernel
theorem dX8_neck_68 : decode cX8_neck 68 = .ok (.aload_n 0, 1) := by decide +kernel
theorem dX8_neck_69 : decode cX8_neck 69 = .ok (.getfield 58, 3) := by decide +kernel
theorem dX8_neck_72 : decode cX8_neck 72 = .ok (.getfield 142, 3) := by decide +kernel
theorem dX8_neck_75 : decode cX8_neck 75 = .ok (.aload_n 0, 1) := by decide +kernel
theorem dX8_neck_76 : decode cX8_neck 76 = .ok (.getfield 58, 3) := by decide +kernel
theorem dX8_neck_79 : decode cX8_neck 79 = .ok (.getfield 145, 3) := by decide +kernel
theorem dX8_neck_82 : decode cX8_neck 82 = .ok (.invokevirtual 203, 3) := by decide +kernel
theorem dX8_neck_85 : decode cX8_neck 85 = .ok (.ireturn, 1) := by decide +kernel
theorem dX8_neck_86 : decode cX8_neck 86 = .ok (.bipush (-2), 2) := by decide +kernel
theorem dX8_neck_88 : decode cX8_neck 88 = .ok (.ireturn, 1) := by decide +kernel
theorem dX8_oxbow_0 : decode cX8_oxbow 0 = .ok (.aload_n 0, 1) := by decide +kernel
theorem dX8_oxbow_1 : decode cX8_oxbow 1 = .ok (.getfield 12, 3) := by decide +kernel
theorem dX8_oxbow_4 : decode cX8_oxbow 4 = .ok (.getfield 167, 3) := by decide +kernel
theorem dX8_oxbow_7 : decode cX8_oxbow 7 = .ok (.iload_n 1, 1) := by decide +kernel
theorem dX8_oxbow_8 : decode cX8_oxbow 8 = .ok (.invokevirtual 206, 3) := by decide +kernel
theorem dX8_oxbow_11 : decode cX8_oxbow 11 = .ok (.ifCond .ne 5, 3) := by decide +kernel
theorem dX8_oxbow_14 : decode cX8_oxbow 14 = .ok (.iconst (-1), 1) := by decide +kernel
theorem dX8_oxbow_15 : decode cX8_oxbow 15 = .ok (.ireturn, 1) := by decide +kernel
theorem dX8_oxbow_16 : decode cX8_oxbow 16 = .ok (.iload_n 2, 1) := by decide +kernel
theorem dX8_oxbow_17 : decode cX8_oxbow 17 = .ok (.tableswitch 85 0 3 #[31, 43, 55, 70], 31) := by decide +kernel
theorem dX8_oxbow_48 : decode cX8_oxbow 48 = .ok (.aload_n 0, 1) := by decide +kernel
theorem dX8_oxbow_49 : decode cX8_oxbow 49 = .ok (.getfield 12, 3) := by decide +kernel
theorem dX8_oxbow_52 : decode cX8_oxbow 52 = .ok (.getfield 167, 3) := by decide +kernel
theorem dX8_oxbow_55 : decode cX8_oxbow 55 = .ok (.iload_n 1, 1) := by decide +kernel
theorem dX8_oxbow_56 : decode cX8_oxbow 56 = .ok (.invokevirtual 209, 3) := by decide +kernel
theorem dX8_oxbow_59 : decode cX8_oxbow 59 = .ok (.ireturn, 1) := by decide +kernel
theorem dX8_oxbow_60 : decode cX8_oxbow 60 = .ok (.aload_n 0, 1) := by decide +kernel
theorem dX8_oxbow_61 : decode cX8_oxbow 61 = .ok (.getfield 12, 3) := by decide +kernel
theorem dX8_oxbow_64 : decode cX8_oxbow 64 = .ok (.getfield 167, 3) := by decide +kernel
theorem dX8_oxbow_67 : decode cX8_oxbow 67 = .ok (.iload_n 1, 1) := by decide +kernel
theorem dX8_oxbow_68 : decode cX8_oxbow 68 = .ok (.invokevirtual 212, 3) := by decide +kernel
theorem dX8_oxbow_71 : decode cX8_oxbow 71 = .ok (.ireturn, 1) := by decide +kernel
theorem dX8_oxbow_72 : decode cX8_oxbow 72 = .ok (.aload_n 0, 1) := by decide +kernel
theorem dX8_oxbow_73 : decode cX8_oxbow 73 = .ok (.getfield 12, 3) := by decide +kernel
theorem dX8_oxbow_76 : decode cX8_oxbow 76 = .ok (.getfield 167, 3) := by decide +kernel
theorem dX8_oxbow_79 : decode cX8_oxbow 79 = .ok (.iload_n 1, 1) := by decide +kernel
theorem dX8_oxbow_80 : decode cX8_oxbow 80 = .ok (.invokevirtual 215, 3) := by decide +kernel
theorem dX8_oxbow_83 : decode cX8_oxbow 83 = .ok (.bipush 20, 2) := by decide +kernel
theorem dX8_oxbow_85 : decode cX8_oxbow 85 = .ok (.irem, 1) := by decide +kernel
theorem dX8_oxbow_86 : decode cX8_oxbow 86 = .ok (.ireturn, 1) := by decide +kernel
theorem dX8_oxbow_87 : decode cX8_oxbow 87 = .ok (.aload_n 0, 1) := by decide +kernel
theorem dX8_oxbow_88 : decode cX8_oxbow 88 = .ok (.getfield 12, 3) := by decide +kernel
theorem dX8_oxbow_91 : decode cX8_oxbow 91 = .ok (.getfield 167, 3) := by decide +kernel
theorem dX8_oxbow_94 : decode cX8_oxbow 94 = .ok (.iload_n 1, 1) := by decide +kernel
theorem dX8_oxbow_95 : decode cX8_oxbow 95 = .ok (.invokevirtual 215, 3) := by decide +kernel
theorem dX8_oxbow_98 : decode cX8_oxbow 98 = .ok (.bipush 20, 2) := by decide +kernel
theorem dX8_oxbow_100 : decode cX8_oxbow 100 = .ok (.idiv, 1) := by decide +kernel
theorem dX8_oxbow_101 : decode cX8_oxbow 101 = .ok (.ireturn, 1) := by decide +kernel
theorem dX8_oxbow_102 : decode cX8_oxbow 102 = .ok (.bipush (-2), 2) := by decide +kernel
theorem dX8_oxbow_104 : decode cX8_oxbow 104 = .ok (.ireturn, 1) := by decide +kernel
theorem dX8_count_0 : decode cX8_count 0 = .ok (.iload_n 1, 1) := by decide +kernel
theorem dX8_count_1 : decode cX8_count 1 = .ok (.tableswitch 213 0 17 #[87, 98, 104, 110, 115, 126, 134, 142, 150, 158, 166, 177, 185, 185, 185, 185, 197, 205], 87) := by decide +kernel
theorem dX8_count_88 : decode cX8_count 88 = .ok (.aload_n 0, 1) := by decide +kernel
theorem dX8_count_89 : decode cX8_count 89 = .ok (.getfield 12, 3) := by decide +kernel
theorem dX8_count_92 : decode cX8_count 92 = .ok (.getfield 91, 3) := by decide +kernel
theorem dX8_count_95 : decode cX8_count 95 = .ok (.invokevirtual 102, 3) := by decide +kernel
theorem dX8_count_98 : decode cX8_count 98 = .ok (.ireturn, 1) := by decide +kernel
theorem dX8_count_99 : decode cX8_count 99 = .ok (.aload_n 0, 1) := by decide +kernel
theorem dX8_count_100 : decode cX8_count 100 = .ok (.iconst 0, 1) := by decide +kernel
theorem dX8_count_101 : decode cX8_count 101 = .ok (.invokevirtual 218, 3) := by decide +kernel
theorem dX8_count_104 : decode cX8_count 104 = .ok (.ireturn, 1) := by decide +kernel
theorem dX8_count_105 : decode cX8_count 105 = .ok (.aload_n 0, 1) := by decide +kernel
theorem dX8_count_106 : decode cX8_count 106 = .ok (.iconst 1, 1) := by decide +kernel
theorem dX8_count_107 : decode cX8_count 107 = .ok (.invokevirtual 218, 3) := by decide +kernel
theorem dX8_count_110 : decode cX8_count 110 = .ok (.ireturn, 1) := by decide +kernel
theorem dX8_count_111 : decode cX8_count 111 = .ok (.aload_n 0, 1) := by decide +kernel
theorem dX8_count_112 : decode cX8_count 112 = .ok (.invokevirtual 221, 3) := by decide +kernel
theorem dX8_count_115 : decode cX8_count 115 = .ok (.ireturn, 1) := by decide +kernel
theorem dX8_count_116 : decode cX8_count 116 = .ok (.aload_n 0, 1) := by decide +kernel
theorem dX8_count_117 : decode cX8_count 117 = .ok (.getfield 12, 3) := by decide +kernel
theorem dX8_count_120 : decode cX8_count 120 = .ok (.getfield 167, 3) := by decide +kernel
theorem dX8_count_123 : decode cX8_count 123 = .ok (.invokevirtual 224, 3) := by decide +kernel
theorem dX8_count_126 : decode cX8_count 126 = .ok (.ireturn, 1) := by decide +kernel
theorem dX8_count_127 : decode cX8_count 127 = .ok (.aload_n 0, 1) := by decide +kernel
theorem dX8_count_128 : decode cX8_count 128 = .ok (.getfield 12, 3) := by decide +kernel
theorem dX8_count_131 : decode cX8_count 131 = .ok (.getfield 125, 3) := by decide +kernel
theorem dX8_count_134 : decode cX8_count 134 = .ok (.ireturn, 1) := by decide +kernel
theorem dX8_count_135 : decode cX8_count 135 = .ok (.aload_n 0, 1) := by decide +kernel
theorem dX8_count_136 : decode cX8_count 136 = .ok (.getfield 12, 3) := by decide +kernel
theorem dX8_count_139 : decode cX8_count 139 = .ok (.getfield 132, 3) := by decide +kernel
theorem dX8_count_142 : decode cX8_count 142 = .ok (.ireturn, 1) := by decide +kernel
theorem dX8_count_143 : decode cX8_count 143 = .ok (.aload_n 0, 1) := by decide +kernel
theorem dX8_count_144 : decode cX8_count 144 = .ok (.getfield 12, 3) := by decide +kernel
theorem dX8_count_147 : decode cX8_count 147 = .ok (.invokevirtual 122, 3) := by decide +kernel
theorem dX8_count_150 : decode cX8_count 150 = .ok (.ireturn, 1) := by decide +kernel
theorem dX8_count_151 : decode cX8_count 151 = .ok (.aload_n 0, 1) := by decide +kernel
theorem dX8_count_152 : decode cX8_count 152 = .ok (.getfield 12, 3) := by decide +kernel
theorem dX8_count_155 : decode cX8_count 155 = .ok (.getfield 151, 3) := by decide +kernel
theorem dX8_count_158 : decode cX8_count 158 = .ok (.ireturn, 1) := by decide +kernel
theorem dX8_count_159 : decode cX8_count 159 = .ok (.aload_n 0, 1) := by decide +kernel
theorem dX8_count_160 : decode cX8_count 160 = .ok (.getfield 12, 3) := by decide +kernel
theorem dX8_count_163 : decode cX8_count 163 = .ok (.getfield 225, 3) := by decide +kernel
theorem dX8_count_166 : decode cX8_count 166 = .ok (.ireturn, 1) := by decide +kernel
theorem dX8_count_167 : decode cX8_count 167 = .ok (.aload_n 0, 1) := by decide +kernel
theorem dX8_count_168 : decode cX8_count 168 = .ok (.getfield 12, 3) := by decide +kernel
theorem dX8_count_171 : decode cX8_count 171 = .ok (.getfield 91, 3) := by decide +kernel
theorem dX8_count_174 : decode cX8_count 174 = .ok (.invokevirtual 228, 3) := by decide +kernel
theorem dX8_count_177 : decode cX8_count 177 = .ok (.ireturn, 1) := by decide +kernel
theorem dX8_count_178 : decode cX8_count 178 = .ok (.aload_n 0, 1) := by decide +kernel
theorem dX8_count_179 : decode cX8_count 179 = .ok (.getfield 12, 3) := by decide +kernel
theorem dX8_count_182 : decode cX8_count 182 = .ok (.invokevirtual 231, 3) := by decide +kernel
theorem dX8_count_185 : decode cX8_count 185 = .ok (.ireturn, 1) := by decide +kernel
theorem dX8_count_186 : decode cX8_count 186 = .ok (.aload_n 0, 1) := by decide +kernel
theorem dX8_count_187 : decode cX8_count 187 = .ok (.getfield 12, 3) := by decide +kernel
theorem dX8_count_190 : decode cX8_count 190 = .ok (.iload_n 1, 1) := by decide +kernel
theorem dX8_count_191 : decode cX8_count 191 = .ok (.bipush 12, 2) := by decide +kernel
theorem dX8_count_193 : decode cX8_count 193 = .ok (.isub, 1) := by decide +kernel
theorem dX8_count_194 : decode cX8_count 194 = .ok (.invokevirtual 70, 3) := by decide +kernel
theorem dX8_count_197 : decode cX8_count 197 = .ok (.ireturn, 1) := by decide +kernel
theorem dX8_count_198 : decode cX8_count 198 = .ok (.aload_n 0, 1) := by decide +kernel
theorem dX8_count_199 : decode cX8_count 199 = .ok (.getfield 37, 3) := by decide +kernel
theorem dX8_count_202 : decode cX8_count 202 = .ok (.invokevirtual 234, 3) := by decide +kernel
theorem dX8_count_205 : decode cX8_count 205 = .ok (.ireturn, 1) := by decide +kernel
theorem dX8_count_206 : decode cX8_count 206 = .ok (.aload_n 0, 1) := by decide +kernel
theorem dX8_count_207 : decode cX8_count 207 = .ok (.getfield 30, 3) := by decide +kernel
theorem dX8_count_210 : decode cX8_count 210 = .ok (.invokevirtual 235, 3) := by decide +kernel
theorem dX8_count_213 : decode cX8_count 213 = .ok (.ireturn, 1) := by decide +kernel
theorem dX8_count_214 : decode cX8_count 214 = .ok (.bipush (-2), 2) := by decide +kernel
theorem dX8_count_216 : decode cX8_count 216 = .ok (.ireturn, 1) := by decide +kernel
theorem dX8_isFlood_0 : decode cX8_isFlood 0 = .ok (.iload_n 1, 1) := by decide +kernel
theorem dX8_isFlood_1 : decode cX8_isFlood 1 = .ok (.ifCond .lt 10, 3) := by decide +kernel
theorem dX8_isFlood_4 : decode cX8_isFlood 4 = .ok (.iload_n 1, 1) := by decide +kernel
theorem dX8_isFlood_5 : decode cX8_isFlood 5 = .ok (.sipush 999, 3) := by decide +kernel
theorem dX8_isFlood_8 : decode cX8_isFlood 8 = .ok (.if_icmp .le 6, 3) := by decide +kernel
theorem dX8_isFlood_11 : decode cX8_isFlood 11 = .ok (.bipush (-2), 2) := by decide +kernel
theorem dX8_isFlood_13 : decode cX8_isFlood 13 = .ok (.ireturn, 1) := by decide +kernel
theorem dX8_isFlood_14 : decode cX8_isFlood 14 = .ok (.aload_n 0, 1) := by decide +kernel
theorem dX8_isFlood_15 : decode cX8_isFlood 15 = .ok (.getfield 12, 3) := by decide +kernel
theorem dX8_isFlood_18 : decode cX8_isFlood 18 = .ok (.iload_n 1, 1) := by decide +kernel
theorem dX8_isFlood_19 : decode cX8_isFlood 19 = .ok (.invokevirtual 129, 3) := by decide +kernel
theorem dX8_isFlood_22 : decode cX8_isFlood 22 = .ok (.invokestatic 163, 3) := by decide +kernel
theorem dX8_isFlood_25 : decode cX8_isFlood 25 = .ok (.ireturn, 1) := by decide +kernel
theorem dX8_ifPassed_0 : decode cX8_ifPassed 0 = .ok (.iload_n 1, 1) := by decide +kernel
theorem dX8_ifPassed_1 : decode cX8_ifPassed 1 = .ok (.iconst 1, 1) := by decide +kernel
theorem dX8_ifPassed_2 : decode cX8_ifPassed 2 = .ok (.if_icmp .lt 18, 3) := by decide +kernel
theorem dX8_ifPassed_5 : decode cX8_ifPassed 5 = .ok (.iload_n 1, 1) := by decide +kernel
theorem dX8_ifPassed_6 : decode cX8_ifPassed 6 = .ok (.bipush 50, 2) := by decide +kernel
theorem dX8_ifPassed_8 : decode cX8_ifPassed 8 = .ok (.if_icmp .gt 12, 3) := by decide +kernel
theorem dX8_ifPassed_11 : decode cX8_ifPassed 11 = .ok (.iload_n 2, 1) := by decide +kernel
theorem dX8_ifPassed_12 : decode cX8_ifPassed 12 = .ok (.ifCond .lt 8, 3) := by decide +kernel
theorem dX8_ifPassed_15 : decode cX8_ifPassed 15 = .ok (.iload_n 2, 1) := by decide +kernel
theorem dX8_ifPassed_16 : decode cX8_ifPassed 16 = .ok (.iconst 3, 1) := by decide +kernel
theorem dX8_ifPassed_17 : decode cX8_ifPassed 17 = .ok (.if_icmp .le 6, 3) := by decide +kernel
theorem dX8_ifPassed_20 : decode cX8_ifPassed 20 = .ok (.bipush (-2), 2) := by decide +kernel
theorem dX8_ifPassed_22 : decode cX8_ifPassed 22 = .ok (.ireturn, 1) := by decide +kernel
theorem dX8_ifPassed_23 : decode cX8_ifPassed 23 = .ok (.aload_n 0, 1) := by decide +kernel
theorem dX8_ifPassed_24 : decode cX8_ifPassed 24 = .ok (.getfield 16, 3) := by decide +kernel
theorem dX8_ifPassed_27 : decode cX8_ifPassed 27 = .ok (.aload_n 0, 1) := by decide +kernel
theorem dX8_ifPassed_28 : decode cX8_ifPassed 28 = .ok (.getfield 12, 3) := by decide +kernel
theorem dX8_ifPassed_31 : decode cX8_ifPassed 31 = .ok (.invokevirtual 85, 3) := by decide +kernel
theorem dX8_ifPassed_34 : decode cX8_ifPassed 34 = .ok (.iconst 0, 1) := by decide +kernel
theorem dX8_ifPassed_35 : decode cX8_ifPassed 35 = .ok (.istore_n 3, 1) := by decide +kernel
theorem dX8_ifPassed_36 : decode cX8_ifPassed 36 = .ok (.iload_n 3, 1) := by decide +kernel
theorem dX8_ifPassed_37 : decode cX8_ifPassed 37 = .ok (.iload_n 1, 1) := by decide +kernel
theorem dX8_ifPassed_38 : decode cX8_ifPassed 38 = .ok (.if_icmp .ge 20, 3) := by decide +kernel
theorem dX8_ifPassed_41 : decode cX8_ifPassed 41 = .ok (.aload_n 0, 1) := by decide +kernel
theorem dX8_ifPassed_42 : decode cX8_ifPassed 42 = .ok (.getfield 44, 3) := by decide +kernel
theorem dX8_ifPassed_45 : decode cX8_ifPassed 45 = .ok (.aload_n 0, 1) := by decide +kernel
theorem dX8_ifPassed_46 : decode cX8_ifPassed 46 = .ok (.getfield 16, 3) := by decide +kernel
theorem dX8_ifPassed_49 : decode cX8_ifPassed 49 = .ok (.invokevirtual 154, 3) := by decide +kernel
theorem dX8_ifPassed_52 : decode cX8_ifPassed 52 = .ok (.iinc 3 1, 3) := by decide +kernel
theorem dX8_ifPassed_55 : decode cX8_ifPassed 55 = .ok (.goto (-19), 3) := by decide +kernel
theorem dX8_ifPassed_58 : decode cX8_ifPassed 58 = .ok (.iload_n 2, 1) := by decide +kernel
theorem dX8_ifPassed_59 : decode cX8_ifPassed 59 = .ok (.tableswitch 68 0 2 #[25, 41, 57], 25) := by decide +kernel
theorem dX8_ifPassed_84 : decode cX8_ifPassed 84 = .ok (.aload_n 0, 1) := by decide +kernel
theorem dX8_ifPassed_85 : decode cX8_ifPassed 85 = .ok (.getfield 16, 3) := by decide +kernel
theorem dX8_ifPassed_88 : decode cX8_ifPassed 88 = .ok (.getfield 151, 3) := by decide +kernel
theorem dX8_ifPassed_91 : decode cX8_ifPassed 91 = .ok (.aload_n 0, 1) := by decide +kernel
theorem dX8_ifPassed_92 : decode cX8_ifPassed 92 = .ok (.getfield 12, 3) := by decide +kernel
theorem dX8_ifPassed_95 : decode cX8_ifPassed 95 = .ok (.getfield 151, 3) := by decide +kernel
theorem dX8_ifPassed_98 : decode cX8_ifPassed 98 = .ok (.isub, 1) := by decide +kernel
theorem dX8_ifPassed_99 : decode cX8_ifPassed 99 = .ok (.ireturn, 1) := by decide +kernel
theorem dX8_ifPassed_100 : decode cX8_ifPassed 100 = .ok (.aload_n 0, 1) := by decide +kernel
theorem dX8_ifPassed_101 : decode cX8_ifPassed 101 = .ok (.getfield 16, 3) := by decide +kernel
theorem dX8_ifPassed_104 : decode cX8_ifPassed 104 = .ok (.getfield 225, 3) := by decide +kernel
theorem dX8_ifPassed_107 : decode cX8_ifPassed 107 = .ok (.aload_n 0, 1) := by decide +kernel
theorem dX8_ifPassed_108 : decode cX8_ifPassed 108 = .ok (.getfield 12, 3) := by decide +kernel
theorem dX8_ifPassed_111 : decode cX8_ifPassed 111 = .ok (.getfield 225, 3) := by decide +kernel
theorem dX8_ifPassed_114 : decode cX8_ifPassed 114 = .ok (.isub, 1) := by decide +kernel
theorem dX8_ifPassed_115 : decode cX8_ifPassed 115 = .ok (.ireturn, 1) := by decide +kernel
theorem dX8_ifPassed_116 : decode cX8_ifPassed 116 = .ok (.aload_n 0, 1) := by decide +kernel
theorem dX8_ifPassed_117 : decode cX8_ifPassed 117 = .ok (.getfield 16, 3) := by decide +kernel
theorem dX8_ifPassed_120 : decode cX8_ifPassed 120 = .ok (.getfield 91, 3) := by decide +kernel
theorem dX8_ifPassed_123 : decode cX8_ifPassed 123 = .ok (.invokevirtual 102, 3) := by decide +kernel
theorem dX8_ifPassed_126 : decode cX8_ifPassed 126 = .ok (.ireturn, 1) := by decide +kernel
theorem dX8_ifPassed_127 : decode cX8_ifPassed 127 = .ok (.aload_n 0, 1) := by decide +kernel
theorem dX8_ifPassed_128 : decode cX8_ifPassed 128 = .ok (.getfield 16, 3) := by decide +kernel
theorem dX8_ifPassed_131 : decode cX8_ifPassed 131 = .ok (.getfield 167, 3) := by decide +kernel
theorem dX8_ifPassed_134 : decode cX8_ifPassed 134 = .ok (.invokevirtual 224, 3) := by decide +kernel
theorem dX8_ifPassed_137 : decode cX8_ifPassed 137 = .ok (.ireturn, 1) := by decide +kernel
theorem dX8_nextCut_0 : decode cX8_nextCut 0 = .ok (.iload_n 1, 1) := by decide +kernel
theorem dX8_nextCut_1 : decode cX8_nextCut 1 = .ok (.ifCond .eq 11, 3) := by decide +kernel
theorem dX8_nextCut_4 : decode cX8_nextCut 4 = .ok (.iload_n 1, 1) := by decide +kernel
theorem dX8_nextCut_5 : decode cX8_nextCut 5 = .ok (.iconst 1, 1) := by decide +kernel
theorem dX8_nextCut_6 : decode cX8_nextCut 6 = .ok (.if_icmp .eq 6, 3) := by decide +kernel
theorem dX8_nextCut_9 : decode cX8_nextCut 9 = .ok (.bipush (-2), 2) := by decide +kernel
theorem dX8_nextCut_11 : decode cX8_nextCut 11 = .ok (.ireturn, 1) := by decide +kernel
theorem dX8_nextCut_12 : decode cX8_nextCut 12 = .ok (.aload_n 0, 1) := by decide +kernel
theorem dX8_nextCut_13 : decode cX8_nextCut 13 = .ok (.getfield 16, 3) := by decide +kernel
theorem dX8_nextCut_16 : decode cX8_nextCut 16 = .ok (.aload_n 0, 1) := by decide +kernel
theorem dX8_nextCut_17 : decode cX8_nextCut 17 = .ok (.getfield 12, 3) := by decide +kernel
theorem dX8_nextCut_20 : decode cX8_nextCut 20 = .ok (.invokevirtual 85, 3) := by decide +kernel
theorem dX8_nextCut_23 : decode cX8_nextCut 23 = .ok (.iconst 0, 1) := by decide +kernel
theorem dX8_nextCut_24 : decode cX8_nextCut 24 = .ok (.istore_n 2, 1) := by decide +kernel
theorem dX8_nextCut_25 : decode cX8_nextCut 25 = .ok (.iload_n 2, 1) := by decide +kernel
theorem dX8_nextCut_26 : decode cX8_nextCut 26 = .ok (.bipush 60, 2) := by decide +kernel
theorem dX8_nextCut_28 : decode cX8_nextCut 28 = .ok (.if_icmp .ge 46, 3) := by decide +kernel
theorem dX8_nextCut_31 : decode cX8_nextCut 31 = .ok (.aload_n 0, 1) := by decide +kernel
theorem dX8_nextCut_32 : decode cX8_nextCut 32 = .ok (.getfield 44, 3) := by decide +kernel
theorem dX8_nextCut_35 : decode cX8_nextCut 35 = .ok (.aload_n 0, 1) := by decide +kernel
theorem dX8_nextCut_36 : decode cX8_nextCut 36 = .ok (.getfield 16, 3) := by decide +kernel
theorem dX8_nextCut_39 : decode cX8_nextCut 39 = .ok (.invokevirtual 154, 3) := by decide +kernel
theorem dX8_nextCut_42 : decode cX8_nextCut 42 = .ok (.aload_n 0, 1) := by decide +kernel
theorem dX8_nextCut_43 : decode cX8_nextCut 43 = .ok (.getfield 44, 3) := by decide +kernel
theorem dX8_nextCut_46 : decode cX8_nextCut 46 = .ok (.getfield 236, 3) := by decide +kernel
theorem dX8_nextCut_49 : decode cX8_nextCut 49 = .ok (.ifCond .le 19, 3) := by decide +kernel
theorem dX8_nextCut_52 : decode cX8_nextCut 52 = .ok (.iload_n 1, 1) := by decide +kernel
theorem dX8_nextCut_53 : decode cX8_nextCut 53 = .ok (.ifCond .ne 7, 3) := by decide +kernel
theorem dX8_nextCut_56 : decode cX8_nextCut 56 = .ok (.iload_n 2, 1) := by decide +kernel
theorem dX8_nextCut_57 : decode cX8_nextCut 57 = .ok (.goto 10, 3) := by decide +kernel
theorem dX8_nextCut_60 : decode cX8_nextCut 60 = .ok (.aload_n 0, 1) := by decide +kernel
theorem dX8_nextCut_61 : decode cX8_nextCut 61 = .ok (.getfield 44, 3) := by decide +kernel
theorem dX8_nextCut_64 : decode cX8_nextCut 64 = .ok (.getfield 236, 3) := by decide +kernel
theorem dX8_nextCut_67 : decode cX8_nextCut 67 = .ok (.ireturn, 1) := by decide +kernel
theorem dX8_nextCut_68 : decode cX8_nextCut 68 = .ok (.iinc 2 1, 3) := by decide +kernel
theorem dX8_nextCut_71 : decode cX8_nextCut 71 = .ok (.goto (-46), 3) := by decide +kernel
theorem dX8_nextCut_74 : decode cX8_nextCut 74 = .ok (.bipush (-6), 2) := by decide +kernel
theorem dX8_nextCut_76 : decode cX8_nextCut 76 = .ok (.ireturn, 1) := by decide +kernel
theorem dX8_taken_0 : decode cX8_taken 0 = .ok (.iload_n 1, 1) := by decide +kernel
theorem dX8_taken_1 : decode cX8_taken 1 = .ok (.iload_n 2, 1) := by decide +kernel
theorem dX8_taken_2 : decode cX8_taken 2 = .ok (.invokestatic 107, 3) := by decide +kernel
theorem dX8_taken_5 : decode cX8_taken 5 = .ok (.istore_n 3, 1) := by decide +kernel
theorem dX8_taken_6 : decode cX8_taken 6 = .ok (.iload_n 3, 1) := by decide +kernel
theorem dX8_taken_7 : decode cX8_taken 7 = .ok (.iconst (-1), 1) := by decide +kernel
theorem dX8_taken_8 : decode cX8_taken 8 = .ok (.if_icmp .ne 5, 3) := by decide +kernel
theorem dX8_taken_11 : decode cX8_taken 11 = .ok (.iconst (-1), 1) := by decide +kernel
theorem dX8_taken_12 : decode cX8_taken 12 = .ok (.ireturn, 1) := by decide +kernel
theorem dX8_taken_13 : decode cX8_taken 13 = .ok (.aload_n 0, 1) := by decide +kernel
theorem dX8_taken_14 : decode cX8_taken 14 = .ok (.getfield 12, 3) := by decide +kernel
theorem dX8_taken_17 : decode cX8_taken 17 = .ok (.getfield 91, 3) := by decide +kernel
theorem dX8_taken_20 : decode cX8_taken 20 = .ok (.iload_n 3, 1) := by decide +kernel
theorem dX8_taken_21 : decode cX8_taken 21 = .ok (.invokevirtual 111, 3) := by decide +kernel
theorem dX8_taken_24 : decode cX8_taken 24 = .ok (.iconst (-1), 1) := by decide +kernel
theorem dX8_taken_25 : decode cX8_taken 25 = .ok (.if_icmp .eq 6, 3) := by decide +kernel
theorem dX8_taken_28 : decode cX8_taken 28 = .ok (.bipush (-6), 2) := by decide +kernel
theorem dX8_taken_30 : decode cX8_taken 30 = .ok (.ireturn, 1) := by decide +kernel
theorem dX8_taken_31 : decode cX8_taken 31 = .ok (.aload_n 0, 1) := by decide +kernel
theorem dX8_taken_32 : decode cX8_taken 32 = .ok (.getfield 16, 3) := by decide +kernel
theorem dX8_taken_35 : decode cX8_taken 35 = .ok (.aload_n 0, 1) := by decide +kernel
theorem dX8_taken_36 : decode cX8_taken 36 = .ok (.getfield 12, 3) := by decide +kernel
theorem dX8_taken_39 : decode cX8_taken 39 = .ok (.invokevirtual 85, 3) := by decide +kernel
theorem dX8_taken_42 : decode cX8_taken 42 = .ok (.aload_n 0, 1) := by decide +kernel
theorem dX8_taken_43 : decode cX8_taken 43 = .ok (.getfield 44, 3) := by decide +kernel
theorem dX8_taken_46 : decode cX8_taken 46 = .ok (.iload_n 3, 1) := by decide +kernel
theorem dX8_taken_47 : decode cX8_taken 47 = .ok (.invokevirtual 239, 3) := by decide +kernel
theorem dX8_taken_50 : decode cX8_taken 50 = .ok (.iconst 0, 1) := by decide +kernel
theorem dX8_taken_51 : decode cX8_taken 51 = .ok (.istore 4, 2) := by decide +kernel
theorem dX8_taken_53 : decode cX8_taken 53 = .ok (.iload 4, 2) := by decide +kernel
theorem dX8_taken_55 : decode cX8_taken 55 = .ok (.bipush 60, 2) := by decide +kernel
theorem dX8_taken_57 : decode cX8_taken 57 = .ok (.if_icmp .ge 33, 3) := by decide +kernel
theorem dX8_taken_60 : decode cX8_taken 60 = .ok (.aload_n 0, 1) := by decide +kernel
theorem dX8_taken_61 : decode cX8_taken 61 = .ok (.getfield 44, 3) := by decide +kernel
theorem dX8_taken_64 : decode cX8_taken 64 = .ok (.aload_n 0, 1) := by decide +kernel
theorem dX8_taken_65 : decode cX8_taken 65 = .ok (.getfield 16, 3) := by decide +kernel
theorem dX8_taken_68 : decode cX8_taken 68 = .ok (.invokevirtual 154, 3) := by decide +kernel
theorem dX8_taken_71 : decode cX8_taken 71 = .ok (.aload_n 0, 1) := by decide +kernel
theorem dX8_taken_72 : decode cX8_taken 72 = .ok (.getfield 44, 3) := by decide +kernel
theorem dX8_taken_75 : decode cX8_taken 75 = .ok (.getfield 243, 3) := by decide +kernel
theorem dX8_taken_78 : decode cX8_taken 78 = .ok (.ifCond .eq 6, 3) := by decide +kernel
theorem dX8_taken_81 : decode cX8_taken 81 = .ok (.iload 4, 2) := by decide +kernel
theorem dX8_taken_83 : decode cX8_taken 83 = .ok (.ireturn, 1) := by decide +kernel
theorem dX8_taken_84 : decode cX8_taken 84 = .ok (.iinc 4 1, 3) := by decide +kernel
theorem dX8_taken_87 : decode cX8_taken 87 = .ok (.goto (-34), 3) := by decide +kernel
theorem dX8_taken_90 : decode cX8_taken 90 = .ok (.bipush (-6), 2) := by decide +kernel
theorem dX8_taken_92 : decode cX8_taken 92 = .ok (.ireturn, 1) := by decide +kernel
theorem dX8_put_0 : decode cX8_put 0 = .ok (.lload_n 1, 1) := by decide +kernel
theorem dX8_put_1 : decode cX8_put 1 = .ok (.invokestatic 247, 3) := by decide +kernel
theorem dX8_put_4 : decode cX8_put 4 = .ok (.istore_n 3, 1) := by decide +kernel
theorem dX8_put_5 : decode cX8_put 5 = .ok (.iload_n 3, 1) := by decide +kernel
theorem dX8_put_6 : decode cX8_put 6 = .ok (.ifCond .ne 6, 3) := by decide +kernel
theorem dX8_put_9 : decode cX8_put 9 = .ok (.bipush (-2), 2) := by decide +kernel
theorem dX8_put_11 : decode cX8_put 11 = .ok (.ireturn, 1) := by decide +kernel
theorem dX8_put_12 : decode cX8_put 12 = .ok (.aload_n 0, 1) := by decide +kernel
theorem dX8_put_13 : decode cX8_put 13 = .ok (.getfield 37, 3) := by decide +kernel
theorem dX8_put_16 : decode cX8_put 16 = .ok (.iload_n 3, 1) := by decide +kernel
theorem dX8_put_17 : decode cX8_put 17 = .ok (.invokevirtual 250, 3) := by decide +kernel
theorem dX8_put_20 : decode cX8_put 20 = .ok (.ifCond .ne 6, 3) := by decide +kernel
theorem dX8_put_23 : decode cX8_put 23 = .ok (.bipush (-4), 2) := by decide +kernel
theorem dX8_put_25 : decode cX8_put 25 = .ok (.ireturn, 1) := by decide +kernel
theorem dX8_put_26 : decode cX8_put 26 = .ok (.aload_n 0, 1) := by decide +kernel
theorem dX8_put_27 : decode cX8_put 27 = .ok (.getfield 37, 3) := by decide +kernel
theorem dX8_put_30 : decode cX8_put 30 = .ok (.lload_n 1, 1) := by decide +kernel
theorem dX8_put_31 : decode cX8_put 31 = .ok (.iload_n 3, 1) := by decide +kernel
theorem dX8_put_32 : decode cX8_put 32 = .ok (.invokevirtual 253, 3) := by decide +kernel
theorem dX8_put_35 : decode cX8_put 35 = .ok (.aload_n 0, 1) := by decide +kernel
theorem dX8_put_36 : decode cX8_put 36 = .ok (.getfield 37, 3) := by decide +kernel
theorem dX8_put_39 : decode cX8_put 39 = .ok (.invokevirtual 234, 3) := by decide +kernel
theorem dX8_put_42 : decode cX8_put 42 = .ok (.ireturn, 1) := by decide +kernel
theorem dX8_wipe_0 : decode cX8_wipe 0 = .ok (.aload_n 0, 1) := by decide +kernel
theorem dX8_wipe_1 : decode cX8_wipe 1 = .ok (.getfield 37, 3) := by decide +kernel
theorem dX8_wipe_4 : decode cX8_wipe 4 = .ok (.invokevirtual 234, 3) := by decide +kernel
theorem dX8_wipe_7 : decode cX8_wipe 7 = .ok (.istore_n 1, 1) := by decide +kernel
theorem dX8_wipe_8 : decode cX8_wipe 8 = .ok (.aload_n 0, 1) := by decide +kernel
theorem dX8_wipe_9 : decode cX8_wipe 9 = .ok (.getfield 37, 3) := by decide +kernel
theorem dX8_wipe_12 : decode cX8_wipe 12 = .ok (.invokevirtual 99, 3) := by decide +kernel
theorem dX8_wipe_15 : decode cX8_wipe 15 = .ok (.iload_n 1, 1) := by decide +kernel
theorem dX8_wipe_16 : decode cX8_wipe 16 = .ok (.ireturn, 1) := by decide +kernel
theorem dX8_fault_0 : decode cX8_fault 0 = .ok (.aload_n 0, 1) := by decide +kernel
theorem dX8_fault_1 : decode cX8_fault 1 = .ok (.getfield 37, 3) := by decide +kernel
theorem dX8_fault_4 : decode cX8_fault 4 = .ok (.invokevirtual 78, 3) := by decide +kernel
theorem dX8_fault_7 : decode cX8_fault 7 = .ok (.ireturn, 1) := by decide +kernel
theorem dX8_undo_0 : decode cX8_undo 0 = .ok (.aload_n 0, 1) := by decide +kernel
theorem dX8_undo_1 : decode cX8_undo 1 = .ok (.getfield 30, 3) := by decide +kernel
theorem dX8_undo_4 : decode cX8_undo 4 = .ok (.aload_n 0, 1) := by decide +kernel
theorem dX8_undo_5 : decode cX8_undo 5 = .ok (.getfield 12, 3) := by decide +kernel
theorem dX8_undo_8 : decode cX8_undo 8 = .ok (.invokevirtual 257, 3) := by decide +kernel
theorem dX8_undo_11 : decode cX8_undo 11 = .ok (.ifCond .ne 6, 3) := by decide +kernel
theorem dX8_undo_14 : decode cX8_undo 14 = .ok (.bipush (-5), 2) := by decide +kernel
theorem dX8_undo_16 : decode cX8_undo 16 = .ok (.ireturn, 1) := by decide +kernel
theorem dX8_undo_17 : decode cX8_undo 17 = .ok (.aload_n 0, 1) := by decide +kernel
theorem dX8_undo_18 : decode cX8_undo 18 = .ok (.getfield 30, 3) := by decide +kernel
theorem dX8_undo_21 : decode cX8_undo 21 = .ok (.invokevirtual 235, 3) := by decide +kernel
theorem dX8_undo_24 : decode cX8_undo 24 = .ok (.ireturn, 1) := by decide +kernel
theorem dX8_save_0 : decode cX8_save 0 = .ok (.iload_n 1, 1) := by decide +kernel
theorem dX8_save_1 : decode cX8_save 1 = .ok (.ifCond .lt 30, 3) := by decide +kernel
theorem dX8_save_4 : decode cX8_save 4 = .ok (.iload_n 1, 1) := by decide +kernel
theorem dX8_save_5 : decode cX8_save 5 = .ok (.aload_n 0, 1) := by decide +kernel
theorem dX8_save_6 : decode cX8_save 6 = .ok (.getfield 19, 3) := by decide +kernel
theorem dX8_save_9 : decode cX8_save 9 = .ok (.arraylength, 1) := by decide +kernel
theorem dX8_save_10 : decode cX8_save 10 = .ok (.if_icmp .ge 21, 3) := by decide +kernel
theorem dX8_save_13 : decode cX8_save 13 = .ok (.iload_n 1, 1) := by decide +kernel
theorem dX8_save_14 : decode cX8_save 14 = .ok (.aload_n 0, 1) := by decide +kernel
theorem dX8_save_15 : decode cX8_save 15 = .ok (.getfield 23, 3) := by decide +kernel
theorem dX8_save_18 : decode cX8_save 18 = .ok (.arraylength, 1) := by decide +kernel
theorem dX8_save_19 : decode cX8_save 19 = .ok (.if_icmp .ge 12, 3) := by decide +kernel
theorem dX8_save_22 : decode cX8_save 22 = .ok (.aload_n 0, 1) := by decide +kernel
theorem dX8_save_23 : decode cX8_save 23 = .ok (.getfield 19, 3) := by decide +kernel
theorem dX8_save_26 : decode cX8_save 26 = .ok (.iload_n 1, 1) := by decide +kernel
theorem dX8_save_27 : decode cX8_save 27 = .ok (.aaload, 1) := by decide +kernel
theorem dX8_save_28 : decode cX8_save 28 = .ok (.ifnonnull 6, 3) := by decide +kernel
theorem dX8_save_31 : decode cX8_save 31 = .ok (.bipush (-2), 2) := by decide +kernel
theorem dX8_save_33 : decode cX8_save 33 = .ok (.ireturn, 1) := by decide +kernel
theorem dX8_save_34 : decode cX8_save 34 = .ok (.aload_n 0, 1) := by decide +kernel
theorem dX8_save_35 : decode cX8_save 35 = .ok (.getfield 19, 3) := by decide +kernel
theorem dX8_save_38 : decode cX8_save 38 = .ok (.iload_n 1, 1) := by decide +kernel
theorem dX8_save_39 : decode cX8_save 39 = .ok (.aaload, 1) := by decide +kernel
theorem dX8_save_40 : decode cX8_save 40 = .ok (.aload_n 0, 1) := by decide +kernel
theorem dX8_save_41 : decode cX8_save 41 = .ok (.getfield 12, 3) := by decide +kernel
theorem dX8_save_44 : decode cX8_save 44 = .ok (.invokevirtual 85, 3) := by decide +kernel
theorem dX8_save_47 : decode cX8_save 47 = .ok (.aload_n 0, 1) := by decide +kernel
theorem dX8_save_48 : decode cX8_save 48 = .ok (.getfield 23, 3) := by decide +kernel
theorem dX8_save_51 : decode cX8_save 51 = .ok (.iload_n 1, 1) := by decide +kernel
theorem dX8_save_52 : decode cX8_save 52 = .ok (.iconst 1, 1) := by decide +kernel
theorem dX8_save_53 : decode cX8_save 53 = .ok (.bastore, 1) := by decide +kernel
theorem dX8_save_54 : decode cX8_save 54 = .ok (.aload_n 0, 1) := by decide +kernel
theorem dX8_save_55 : decode cX8_save 55 = .ok (.getfield 12, 3) := by decide +kernel
theorem dX8_save_58 : decode cX8_save 58 = .ok (.getfield 91, 3) := by decide +kernel
theorem dX8_save_61 : decode cX8_save 61 = .ok (.invokevirtual 102, 3) := by decide +kernel
theorem dX8_save_64 : decode cX8_save 64 = .ok (.ireturn, 1) := by decide +kernel
theorem dX8_restore_0 : decode cX8_restore 0 = .ok (.iload_n 1, 1) := by decide +kernel
theorem dX8_restore_1 : decode cX8_restore 1 = .ok (.ifCond .lt 30, 3) := by decide +kernel
theorem dX8_restore_4 : decode cX8_restore 4 = .ok (.iload_n 1, 1) := by decide +kernel
theorem dX8_restore_5 : decode cX8_restore 5 = .ok (.aload_n 0, 1) := by decide +kernel
theorem dX8_restore_6 : decode cX8_restore 6 = .ok (.getfield 19, 3) := by decide +kernel
theorem dX8_restore_9 : decode cX8_restore 9 = .ok (.arraylength, 1) := by decide +kernel
theorem dX8_restore_10 : decode cX8_restore 10 = .ok (.if_icmp .ge 21, 3) := by decide +kernel
theorem dX8_restore_13 : decode cX8_restore 13 = .ok (.iload_n 1, 1) := by decide +kernel
theorem dX8_restore_14 : decode cX8_restore 14 = .ok (.aload_n 0, 1) := by decide +kernel
theorem dX8_restore_15 : decode cX8_restore 15 = .ok (.getfield 23, 3) := by decide +kernel
theorem dX8_restore_18 : decode cX8_restore 18 = .ok (.arraylength, 1) := by decide +kernel
theorem dX8_restore_19 : decode cX8_restore 19 = .ok (.if_icmp .ge 12, 3) := by decide +kernel
theorem dX8_restore_22 : decode cX8_restore 22 = .ok (.aload_n 0, 1) := by decide +kernel
theorem dX8_restore_23 : decode cX8_restore 23 = .ok (.getfield 19, 3) := by decide +kernel
theorem dX8_restore_26 : decode cX8_restore 26 = .ok (.iload_n 1, 1) := by decide +kernel
theorem dX8_restore_27 : decode cX8_restore 27 = .ok (.aaload, 1) := by decide +kernel
theorem dX8_restore_28 : decode cX8_restore 28 = .ok (.ifnonnull 6, 3) := by decide +kernel
theorem dX8_restore_31 : decode cX8_restore 31 = .ok (.bipush (-2), 2) := by decide +kernel
theorem dX8_restore_33 : decode cX8_restore 33 = .ok (.ireturn, 1) := by decide +kernel
theorem dX8_restore_34 : decode cX8_restore 34 = .ok (.aload_n 0, 1) := by decide +kernel
theorem dX8_restore_35 : decode cX8_restore 35 = .ok (.getfield 23, 3) := by decide +kernel
theorem dX8_restore_38 : decode cX8_restore 38 = .ok (.iload_n 1, 1) := by decide +kernel
theorem dX8_restore_39 : decode cX8_restore 39 = .ok (.baload, 1) := by decide +kernel
theorem dX8_restore_40 : decode cX8_restore 40 = .ok (.ifCond .ne 6, 3) := by decide +kernel
theorem dX8_restore_43 : decode cX8_restore 43 = .ok (.bipush (-5), 2) := by decide +kernel
theorem dX8_restore_45 : decode cX8_restore 45 = .ok (.ireturn, 1) := by decide +kernel
theorem dX8_restore_46 : decode cX8_restore 46 = .ok (.aload_n 0, 1) := by decide +kernel
theorem dX8_restore_47 : decode cX8_restore 47 = .ok (.getfield 30, 3) := by decide +kernel
theorem dX8_restore_50 : decode cX8_restore 50 = .ok (.aload_n 0, 1) := by decide +kernel
theorem dX8_restore_51 : decode cX8_restore 51 = .ok (.getfield 12, 3) := by decide +kernel
theorem dX8_restore_54 : decode cX8_restore 54 = .ok (.invokevirtual 66, 3) := by decide +kernel
theorem dX8_restore_57 : decode cX8_restore 57 = .ok (.aload_n 0, 1) := by decide +kernel
theorem dX8_restore_58 : decode cX8_restore 58 = .ok (.getfield 12, 3) := by decide +kernel
theorem dX8_restore_61 : decode cX8_restore 61 = .ok (.aload_n 0, 1) := by decide +kernel
theorem dX8_restore_62 : decode cX8_restore 62 = .ok (.getfield 19, 3) := by decide +kernel
theorem dX8_restore_65 : decode cX8_restore 65 = .ok (.iload_n 1, 1) := by decide +kernel
theorem dX8_restore_66 : decode cX8_restore 66 = .ok (.aaload, 1) := by decide +kernel
theorem dX8_restore_67 : decode cX8_restore 67 = .ok (.invokevirtual 85, 3) := by decide +kernel
theorem dX8_restore_70 : decode cX8_restore 70 = .ok (.aload_n 0, 1) := by decide +kernel
theorem dX8_restore_71 : decode cX8_restore 71 = .ok (.getfield 12, 3) := by decide +kernel
theorem dX8_restore_74 : decode cX8_restore 74 = .ok (.getfield 91, 3) := by decide +kernel
theorem dX8_restore_77 : decode cX8_restore 77 = .ok (.invokevirtual 102, 3) := by decide +kernel
theorem dX8_restore_80 : decode cX8_restore 80 = .ok (.ireturn, 1) := by decide +kernel
theorem dX8_countBends_0 : decode cX8_countBends 0 = .ok (.iconst 0, 1) := by decide +kernel
theorem dX8_countBends_1 : decode cX8_countBends 1 = .ok (.istore_n 2, 1) := by decide +kernel
theorem dX8_countBends_2 : decode cX8_countBends 2 = .ok (.iconst 0, 1) := by decide +kernel
theorem dX8_countBends_3 : decode cX8_countBends 3 = .ok (.istore_n 3, 1) := by decide +kernel
theorem dX8_countBends_4 : decode cX8_countBends 4 = .ok (.iconst 0, 1) := by decide +kernel
theorem dX8_countBends_5 : decode cX8_countBends 5 = .ok (.istore 4, 2) := by decide +kernel
theorem dX8_countBends_7 : decode cX8_countBends 7 = .ok (.iload 4, 2) := by decide +kernel
theorem dX8_countBends_9 : decode cX8_countBends 9 = .ok (.sipush 150, 3) := by decide +kernel
theorem dX8_countBends_12 : decode cX8_countBends 12 = .ok (.if_icmp .ge 58, 3) := by decide +kernel
theorem dX8_countBends_15 : decode cX8_countBends 15 = .ok (.aload_n 0, 1) := by decide +kernel
theorem dX8_countBends_16 : decode cX8_countBends 16 = .ok (.getfield 51, 3) := by decide +kernel
theorem dX8_countBends_19 : decode cX8_countBends 19 = .ok (.aload_n 0, 1) := by decide +kernel
theorem dX8_countBends_20 : decode cX8_countBends 20 = .ok (.getfield 12, 3) := by decide +kernel
theorem dX8_countBends_23 : decode cX8_countBends 23 = .ok (.getfield 91, 3) := by decide +kernel
theorem dX8_countBends_26 : decode cX8_countBends 26 = .ok (.iload_n 3, 1) := by decide +kernel
theorem dX8_countBends_27 : decode cX8_countBends 27 = .ok (.invokevirtual 261, 3) := by decide +kernel
theorem dX8_countBends_30 : decode cX8_countBends 30 = .ok (.ifCond .eq 40, 3) := by decide +kernel
theorem dX8_countBends_33 : decode cX8_countBends 33 = .ok (.iload_n 1, 1) := by decide +kernel
theorem dX8_countBends_34 : decode cX8_countBends 34 = .ok (.ifCond .eq 17, 3) := by decide +kernel
theorem dX8_countBends_37 : decode cX8_countBends 37 = .ok (.aload_n 0, 1) := by decide +kernel
theorem dX8_countBends_38 : decode cX8_countBends 38 = .ok (.getfield 12, 3) := by decide +kernel
theorem dX8_countBends_41 : decode cX8_countBends 41 = .ok (.aload_n 0, 1) := by decide +kernel
theorem dX8_countBends_42 : decode cX8_countBends 42 = .ok (.getfield 51, 3) := by decide +kernel
theorem dX8_countBends_45 : decode cX8_countBends 45 = .ok (.invokevirtual 192, 3) := by decide +kernel
theorem dX8_countBends_48 : decode cX8_countBends 48 = .ok (.ifCond .eq 6, 3) := by decide +kernel
theorem dX8_countBends_51 : decode cX8_countBends 51 = .ok (.iinc 2 1, 3) := by decide +kernel
theorem dX8_countBends_54 : decode cX8_countBends 54 = .ok (.aload_n 0, 1) := by decide +kernel
theorem dX8_countBends_55 : decode cX8_countBends 55 = .ok (.getfield 51, 3) := by decide +kernel
theorem dX8_countBends_58 : decode cX8_countBends 58 = .ok (.getfield 183, 3) := by decide +kernel
theorem dX8_countBends_61 : decode cX8_countBends 61 = .ok (.iconst 1, 1) := by decide +kernel
theorem dX8_countBends_62 : decode cX8_countBends 62 = .ok (.iadd, 1) := by decide +kernel
theorem dX8_countBends_63 : decode cX8_countBends 63 = .ok (.istore_n 3, 1) := by decide +kernel
theorem dX8_countBends_64 : decode cX8_countBends 64 = .ok (.iinc 4 1, 3) := by decide +kernel
theorem dX8_countBends_67 : decode cX8_countBends 67 = .ok (.goto (-60), 3) := by decide +kernel
theorem dX8_countBends_70 : decode cX8_countBends 70 = .ok (.iload_n 2, 1) := by decide +kernel
theorem dX8_countBends_71 : decode cX8_countBends 71 = .ok (.ireturn, 1) := by decide +kernel
theorem dX8_countNecks_0 : decode cX8_countNecks 0 = .ok (.iconst 0, 1) := by decide +kernel
theorem dX8_countNecks_1 : decode cX8_countNecks 1 = .ok (.istore_n 1, 1) := by decide +kernel
theorem dX8_countNecks_2 : decode cX8_countNecks 2 = .ok (.iconst 0, 1) := by decide +kernel
theorem dX8_countNecks_3 : decode cX8_countNecks 3 = .ok (.istore_n 2, 1) := by decide +kernel
theorem dX8_countNecks_4 : decode cX8_countNecks 4 = .ok (.iload_n 2, 1) := by decide +kernel
theorem dX8_countNecks_5 : decode cX8_countNecks 5 = .ok (.aload_n 0, 1) := by decide +kernel
theorem dX8_countNecks_6 : decode cX8_countNecks 6 = .ok (.getfield 12, 3) := by decide +kernel
theorem dX8_countNecks_9 : decode cX8_countNecks 9 = .ok (.getfield 91, 3) := by decide +kernel
theorem dX8_countNecks_12 : decode cX8_countNecks 12 = .ok (.invokevirtual 102, 3) := by decide +kernel
theorem dX8_countNecks_15 : decode cX8_countNecks 15 = .ok (.if_icmp .ge 43, 3) := by decide +kernel
theorem dX8_countNecks_18 : decode cX8_countNecks 18 = .ok (.iconst 0, 1) := by decide +kernel
theorem dX8_countNecks_19 : decode cX8_countNecks 19 = .ok (.istore_n 3, 1) := by decide +kernel
theorem dX8_countNecks_20 : decode cX8_countNecks 20 = .ok (.iload_n 3, 1) := by decide +kernel
theorem dX8_countNecks_21 : decode cX8_countNecks 21 = .ok (.iconst 4, 1) := by decide +kernel
theorem dX8_countNecks_22 : decode cX8_countNecks 22 = .ok (.if_icmp .ge 30, 3) := by decide +kernel
theorem dX8_countNecks_25 : decode cX8_countNecks 25 = .ok (.aload_n 0, 1) := by decide +kernel
theorem dX8_countNecks_26 : decode cX8_countNecks 26 = .ok (.getfield 12, 3) := by decide +kernel
theorem dX8_countNecks_29 : decode cX8_countNecks 29 = .ok (.getfield 91, 3) := by decide +kernel
theorem dX8_countNecks_32 : decode cX8_countNecks 32 = .ok (.iload_n 2, 1) := by decide +kernel
theorem dX8_countNecks_33 : decode cX8_countNecks 33 = .ok (.iload_n 3, 1) := by decide +kernel
theorem dX8_countNecks_34 : decode cX8_countNecks 34 = .ok (.invokevirtual 264, 3) := by decide +kernel
theorem dX8_countNecks_37 : decode cX8_countNecks 37 = .ok (.iload_n 2, 1) := by decide +kernel
theorem dX8_countNecks_38 : decode cX8_countNecks 38 = .ok (.iconst 3, 1) := by decide +kernel
theorem dX8_countNecks_39 : decode cX8_countNecks 39 = .ok (.iadd, 1) := by decide +kernel
theorem dX8_countNecks_40 : decode cX8_countNecks 40 = .ok (.if_icmp .lt 6, 3) := by decide +kernel
theorem dX8_countNecks_43 : decode cX8_countNecks 43 = .ok (.iinc 1 1, 3) := by decide +kernel
theorem dX8_countNecks_46 : decode cX8_countNecks 46 = .ok (.iinc 3 1, 3) := by decide +kernel
theorem dX8_countNecks_49 : decode cX8_countNecks 49 = .ok (.goto (-29), 3) := by decide +kernel
theorem dX8_countNecks_52 : decode cX8_countNecks 52 = .ok (.iinc 2 1, 3) := by decide +kernel
theorem dX8_countNecks_55 : decode cX8_countNecks 55 = .ok (.goto (-51), 3) := by decide +kernel
theorem dX8_countNecks_58 : decode cX8_countNecks 58 = .ok (.iload_n 1, 1) := by decide +kernel
theorem dX8_countNecks_59 : decode cX8_countNecks 59 = .ok (.ireturn, 1) := by decide +kernel
theorem dX8_orNone_0 : decode cX8_orNone 0 = .ok (.iload_n 0, 1) := by decide +kernel
theorem dX8_orNone_1 : decode cX8_orNone 1 = .ok (.iconst (-1), 1) := by decide +kernel
theorem dX8_orNone_2 : decode cX8_orNone 2 = .ok (.if_icmp .ne 8, 3) := by decide +kernel
theorem dX8_orNone_5 : decode cX8_orNone 5 = .ok (.bipush (-6), 2) := by decide +kernel
theorem dX8_orNone_7 : decode cX8_orNone 7 = .ok (.goto 4, 3) := by decide +kernel
theorem dX8_orNone_10 : decode cX8_orNone 10 = .ok (.iload_n 0, 1) := by decide +kernel
theorem dX8_orNone_11 : decode cX8_orNone 11 = .ok (.ireturn, 1) := by decide +kernel
theorem dX8_asNumber_0 : decode cX8_asNumber 0 = .ok (.iload_n 0, 1) := by decide +kernel
theorem dX8_asNumber_1 : decode cX8_asNumber 1 = .ok (.ifCond .eq 7, 3) := by decide +kernel
theorem dX8_asNumber_4 : decode cX8_asNumber 4 = .ok (.iconst 1, 1) := by decide +kernel
theorem dX8_asNumber_5 : decode cX8_asNumber 5 = .ok (.goto 4, 3) := by decide +kernel
theorem dX8_asNumber_8 : decode cX8_asNumber 8 = .ok (.iconst 0, 1) := by decide +kernel
theorem dX8_asNumber_9 : decode cX8_asNumber 9 = .ok (.ireturn, 1) := by decide +kernel
theorem dX8_cellAt_0 : decode cX8_cellAt 0 = .ok (.iload_n 0, 1) := by decide +kernel
theorem dX8_cellAt_1 : decode cX8_cellAt 1 = .ok (.ifCond .lt 19, 3) := by decide +kernel
theorem dX8_cellAt_4 : decode cX8_cellAt 4 = .ok (.iload_n 0, 1) := by decide +kernel
theorem dX8_cellAt_5 : decode cX8_cellAt 5 = .ok (.bipush 20, 2) := by decide +kernel
theorem dX8_cellAt_7 : decode cX8_cellAt 7 = .ok (.if_icmp .ge 13, 3) := by decide +kernel
theorem dX8_cellAt_10 : decode cX8_cellAt 10 = .ok (.iload_n 1, 1) := by decide +kernel
theorem dX8_cellAt_11 : decode cX8_cellAt 11 = .ok (.ifCond .lt 9, 3) := by decide +kernel
theorem dX8_cellAt_14 : decode cX8_cellAt 14 = .ok (.iload_n 1, 1) := by decide +kernel
theorem dX8_cellAt_15 : decode cX8_cellAt 15 = .ok (.bipush 12, 2) := by decide +kernel
theorem dX8_cellAt_17 : decode cX8_cellAt 17 = .ok (.if_icmp .lt 5, 3) := by decide +kernel
theorem dX8_cellAt_20 : decode cX8_cellAt 20 = .ok (.iconst (-1), 1) := by decide +kernel
theorem dX8_cellAt_21 : decode cX8_cellAt 21 = .ok (.ireturn, 1) := by decide +kernel
theorem dX8_cellAt_22 : decode cX8_cellAt 22 = .ok (.iload_n 1, 1) := by decide +kernel
theorem dX8_cellAt_23 : decode cX8_cellAt 23 = .ok (.bipush 20, 2) := by decide +kernel
theorem dX8_cellAt_25 : decode cX8_cellAt 25 = .ok (.imul, 1) := by decide +kernel
theorem dX8_cellAt_26 : decode cX8_cellAt 26 = .ok (.iload_n 0, 1) := by decide +kernel
theorem dX8_cellAt_27 : decode cX8_cellAt 27 = .ok (.iadd, 1) := by decide +kernel
theorem dX8_cellAt_28 : decode cX8_cellAt 28 = .ok (.ireturn, 1) := by decide +kernel
theorem dX8_isOnLand_0 : decode cX8_isOnLand 0 = .ok (.iload_n 0, 1) := by decide +kernel
theorem dX8_isOnLand_1 : decode cX8_isOnLand 1 = .ok (.ifCond .lt 14, 3) := by decide +kernel
theorem dX8_isOnLand_4 : decode cX8_isOnLand 4 = .ok (.iload_n 0, 1) := by decide +kernel
theorem dX8_isOnLand_5 : decode cX8_isOnLand 5 = .ok (.sipush 240, 3) := by decide +kernel
theorem dX8_isOnLand_8 : decode cX8_isOnLand 8 = .ok (.if_icmp .ge 7, 3) := by decide +kernel
theorem dX8_isOnLand_11 : decode cX8_isOnLand 11 = .ok (.iconst 1, 1) := by decide +kernel
theorem dX8_isOnLand_12 : decode cX8_isOnLand 12 = .ok (.goto 4, 3) := by decide +kernel
theorem dX8_isOnLand_15 : decode cX8_isOnLand 15 = .ok (.iconst 0, 1) := by decide +kernel
theorem dX8_isOnLand_16 : decode cX8_isOnLand 16 = .ok (.ireturn, 1) := by decide +kernel
theorem dX8_beside_0 : decode cX8_beside 0 = .ok (.iload_n 0, 1) := by decide +kernel
theorem dX8_beside_1 : decode cX8_beside 1 = .ok (.ifCond .lt 10, 3) := by decide +kernel
theorem dX8_beside_4 : decode cX8_beside 4 = .ok (.iload_n 0, 1) := by decide +kernel
theorem dX8_beside_5 : decode cX8_beside 5 = .ok (.sipush 240, 3) := by decide +kernel
theorem dX8_beside_8 : decode cX8_beside 8 = .ok (.if_icmp .lt 5, 3) := by decide +kernel
theorem dX8_beside_11 : decode cX8_beside 11 = .ok (.iconst (-1), 1) := by decide +kernel
theorem dX8_beside_12 : decode cX8_beside 12 = .ok (.ireturn, 1) := by decide +kernel
theorem dX8_beside_13 : decode cX8_beside 13 = .ok (.iload_n 1, 1) := by decide +kernel
theorem dX8_beside_14 : decode cX8_beside 14 = .ok (.tableswitch 96 0 3 #[30, 47, 66, 81], 30) := by decide +kernel
theorem dX8_beside_44 : decode cX8_beside 44 = .ok (.iload_n 0, 1) := by decide +kernel
theorem dX8_beside_45 : decode cX8_beside 45 = .ok (.bipush 20, 2) := by decide +kernel
theorem dX8_beside_47 : decode cX8_beside 47 = .ok (.irem, 1) := by decide +kernel
theorem dX8_beside_48 : decode cX8_beside 48 = .ok (.bipush 19, 2) := by decide +kernel
theorem dX8_beside_50 : decode cX8_beside 50 = .ok (.if_icmp .ge 9, 3) := by decide +kernel
theorem dX8_beside_53 : decode cX8_beside 53 = .ok (.iload_n 0, 1) := by decide +kernel
theorem dX8_beside_54 : decode cX8_beside 54 = .ok (.iconst 1, 1) := by decide +kernel
theorem dX8_beside_55 : decode cX8_beside 55 = .ok (.iadd, 1) := by decide +kernel
theorem dX8_beside_56 : decode cX8_beside 56 = .ok (.goto 4, 3) := by decide +kernel
theorem dX8_beside_59 : decode cX8_beside 59 = .ok (.iconst (-1), 1) := by decide +kernel
theorem dX8_beside_60 : decode cX8_beside 60 = .ok (.ireturn, 1) := by decide +kernel
theorem dX8_beside_61 : decode cX8_beside 61 = .ok (.iload_n 0, 1) := by decide +kernel
theorem dX8_beside_62 : decode cX8_beside 62 = .ok (.bipush 20, 2) := by decide +kernel
theorem dX8_beside_64 : decode cX8_beside 64 = .ok (.iadd, 1) := by decide +kernel
theorem dX8_beside_65 : decode cX8_beside 65 = .ok (.sipush 240, 3) := by decide +kernel
theorem dX8_beside_68 : decode cX8_beside 68 = .ok (.if_icmp .ge 10, 3) := by decide +kernel
theorem dX8_beside_71 : decode cX8_beside 71 = .ok (.iload_n 0, 1) := by decide +kernel
theorem dX8_beside_72 : decode cX8_beside 72 = .ok (.bipush 20, 2) := by decide +kernel
theorem dX8_beside_74 : decode cX8_beside 74 = .ok (.iadd, 1) := by decide +kernel
theorem dX8_beside_75 : decode cX8_beside 75 = .ok (.goto 4, 3) := by decide +kernel
theorem dX8_beside_78 : decode cX8_beside 78 = .ok (.iconst (-1), 1) := by decide +kernel
theorem dX8_beside_79 : decode cX8_beside 79 = .ok (.ireturn, 1) := by decide +kernel
theorem dX8_beside_80 : decode cX8_beside 80 = .ok (.iload_n 0, 1) := by decide +kernel
theorem dX8_beside_81 : decode cX8_beside 81 = .ok (.bipush 20, 2) := by decide +kernel
theorem dX8_beside_83 : decode cX8_beside 83 = .ok (.irem, 1) := by decide +kernel
theorem dX8_beside_84 : decode cX8_beside 84 = .ok (.ifCond .le 9, 3) := by decide +kernel
theorem dX8_beside_87 : decode cX8_beside 87 = .ok (.iload_n 0, 1) := by decide +kernel
theorem dX8_beside_88 : decode cX8_beside 88 = .ok (.iconst 1, 1) := by decide +kernel
theorem dX8_beside_89 : decode cX8_beside 89 = .ok (.isub, 1) := by decide +kernel
theorem dX8_beside_90 : decode cX8_beside 90 = .ok (.goto 4, 3) := by decide +kernel
theorem dX8_beside_93 : decode cX8_beside 93 = .ok (.iconst (-1), 1) := by decide +kernel
theorem dX8_beside_94 : decode cX8_beside 94 = .ok (.ireturn, 1) := by decide +kernel
theorem dX8_beside_95 : decode cX8_beside 95 = .ok (.iload_n 0, 1) := by decide +kernel
theorem dX8_beside_96 : decode cX8_beside 96 = .ok (.bipush 20, 2) := by decide +kernel
theorem dX8_beside_98 : decode cX8_beside 98 = .ok (.if_icmp .lt 10, 3) := by decide +kernel
theorem dX8_beside_101 : decode cX8_beside 101 = .ok (.iload_n 0, 1) := by decide +kernel
theorem dX8_beside_102 : decode cX8_beside 102 = .ok (.bipush 20, 2) := by decide +kernel
theorem dX8_beside_104 : decode cX8_beside 104 = .ok (.isub, 1) := by decide +kernel
theorem dX8_beside_105 : decode cX8_beside 105 = .ok (.goto 4, 3) := by decide +kernel
theorem dX8_beside_108 : decode cX8_beside 108 = .ok (.iconst (-1), 1) := by decide +kernel
theorem dX8_beside_109 : decode cX8_beside 109 = .ok (.ireturn, 1) := by decide +kernel
theorem dX8_beside_110 : decode cX8_beside 110 = .ok (.iconst (-1), 1) := by decide +kernel
theorem dX8_beside_111 : decode cX8_beside 111 = .ok (.ireturn, 1) := by decide +kernel
theorem dX8_areOpposite_0 : decode cX8_areOpposite 0 = .ok (.iload_n 0, 1) := by decide +kernel
theorem dX8_areOpposite_1 : decode cX8_areOpposite 1 = .ok (.iload_n 1, 1) := by decide +kernel
theorem dX8_areOpposite_2 : decode cX8_areOpposite 2 = .ok (.isub, 1) := by decide +kernel
theorem dX8_areOpposite_3 : decode cX8_areOpposite 3 = .ok (.invokestatic 267, 3) := by decide +kernel
theorem dX8_areOpposite_6 : decode cX8_areOpposite 6 = .ok (.iconst 2, 1) := by decide +kernel
theorem dX8_areOpposite_7 : decode cX8_areOpposite 7 = .ok (.if_icmp .ne 7, 3) := by decide +kernel
theorem dX8_areOpposite_10 : decode cX8_areOpposite 10 = .ok (.iconst 1, 1) := by decide +kernel
theorem dX8_areOpposite_11 : decode cX8_areOpposite 11 = .ok (.goto 4, 3) := by decide +kernel
theorem dX8_areOpposite_14 : decode cX8_areOpposite 14 = .ok (.iconst 0, 1) := by decide +kernel
theorem dX8_areOpposite_15 : decode cX8_areOpposite 15 = .ok (.ireturn, 1) := by decide +kernel
theorem dJ9_abs_0f7a4_0 : decode cJ9_abs_0f7a4 0 = .ok (.iload_n 0, 1) := by decide +kernel
theorem dJ9_abs_0f7a4_1 : decode cJ9_abs_0f7a4 1 = .ok (.ifCond .ge 8, 3) := by decide +kernel
theorem dJ9_abs_0f7a4_4 : decode cJ9_abs_0f7a4 4 = .ok (.iload_n 0, 1) := by decide +kernel
theorem dJ9_abs_0f7a4_5 : decode cJ9_abs_0f7a4 5 = .ok (.ineg, 1) := by decide +kernel
theorem dJ9_abs_0f7a4_6 : decode cJ9_abs_0f7a4 6 = .ok (.goto 4, 3) := by decide +kernel
theorem dJ9_abs_0f7a4_9 : decode cJ9_abs_0f7a4 9 = .ok (.iload_n 0, 1) := by decide +kernel
theorem dJ9_abs_0f7a4_10 : decode cJ9_abs_0f7a4 10 = .ok (.ireturn, 1) := by decide +kernel
theorem dJ9_max_7cf53_0 : decode cJ9_max_7cf53 0 = .ok (.iload_n 0, 1) := by decide +kernel
theorem dJ9_max_7cf53_1 : decode cJ9_max_7cf53 1 = .ok (.iload_n 1, 1) := by decide +kernel
theorem dJ9_max_7cf53_2 : decode cJ9_max_7cf53 2 = .ok (.if_icmp .lt 7, 3) := by decide +kernel
theorem dJ9_max_7cf53_5 : decode cJ9_max_7cf53 5 = .ok (.iload_n 0, 1) := by decide +kernel
theorem dJ9_max_7cf53_6 : decode cJ9_max_7cf53 6 = .ok (.goto 4, 3) := by decide +kernel
theorem dJ9_max_7cf53_9 : decode cJ9_max_7cf53 9 = .ok (.iload_n 1, 1) := by decide +kernel
theorem dJ9_max_7cf53_10 : decode cJ9_max_7cf53 10 = .ok (.ireturn, 1) := by decide +kernel
theorem dJ9_min_7cf53_0 : decode cJ9_min_7cf53 0 = .ok (.iload_n 0, 1) := by decide +kernel
theorem dJ9_min_7cf53_1 : decode cJ9_min_7cf53 1 = .ok (.iload_n 1, 1) := by decide +kernel
theorem dJ9_min_7cf53_2 : decode cJ9_min_7cf53 2 = .ok (.if_icmp .gt 7, 3) := by decide +kernel
theorem dJ9_min_7cf53_5 : decode cJ9_min_7cf53 5 = .ok (.iload_n 0, 1) := by decide +kernel
theorem dJ9_min_7cf53_6 : decode cJ9_min_7cf53 6 = .ok (.goto 4, 3) := by decide +kernel
theorem dJ9_min_7cf53_9 : decode cJ9_min_7cf53 9 = .ok (.iload_n 1, 1) := by decide +kernel
theorem dJ9_min_7cf53_10 : decode cJ9_min_7cf53 10 = .ok (.ireturn, 1) := by decide +kernel
theorem dJ7_fill_53178_0 : decode cJ7_fill_53178 0 = .ok (.iconst 0, 1) := by decide +kernel
theorem dJ7_fill_53178_1 : decode cJ7_fill_53178 1 = .ok (.istore_n 2, 1) := by decide +kernel
theorem dJ7_fill_53178_2 : decode cJ7_fill_53178 2 = .ok (.aload_n 0, 1) := by decide +kernel
theorem dJ7_fill_53178_3 : decode cJ7_fill_53178 3 = .ok (.arraylength, 1) := by decide +kernel
theorem dJ7_fill_53178_4 : decode cJ7_fill_53178 4 = .ok (.istore_n 3, 1) := by decide +kernel
theorem dJ7_fill_53178_5 : decode cJ7_fill_53178 5 = .ok (.iload_n 2, 1) := by decide +kernel
theorem dJ7_fill_53178_6 : decode cJ7_fill_53178 6 = .ok (.iload_n 3, 1) := by decide +kernel
theorem dJ7_fill_53178_7 : decode cJ7_fill_53178 7 = .ok (.if_icmp .ge 13, 3) := by decide +kernel
theorem dJ7_fill_53178_10 : decode cJ7_fill_53178 10 = .ok (.aload_n 0, 1) := by decide +kernel
theorem dJ7_fill_53178_11 : decode cJ7_fill_53178 11 = .ok (.iload_n 2, 1) := by decide +kernel
theorem dJ7_fill_53178_12 : decode cJ7_fill_53178 12 = .ok (.iload_n 1, 1) := by decide +kernel
theorem dJ7_fill_53178_13 : decode cJ7_fill_53178 13 = .ok (.iastore, 1) := by decide +kernel
theorem dJ7_fill_53178_14 : decode cJ7_fill_53178 14 = .ok (.iinc 2 1, 3) := by decide +kernel
theorem dJ7_fill_53178_17 : decode cJ7_fill_53178 17 = .ok (.goto (-12), 3) := by decide +kernel
theorem dJ7_fill_53178_20 : decode cJ7_fill_53178 20 = .ok (.return_, 1) := by decide +kernel
end
section
theorem dX9_init_0 : decode cX9_init 0 = .ok (.aload_n 0, 1) := by decide +kernel
theorem dX9_init_1 : decode cX9_init 1 = .ok (.invokespecial 1, 3) := by decide +kernel
theorem dX9_init_4 : decode cX9_init 4 = .ok (.aload_n 0, 1) := by decide +kernel
theorem dX9_init_5 : decode cX9_init 5 = .ok (.sipush 1407, 3) := by decide +kernel
theorem dX9_init_8 : decode cX9_init 8 = .ok (.newarray .int, 2) := by decide +kernel
theorem dX9_init_10 : decode cX9_init 10 = .ok (.putfield 7, 3) := by decide +kernel
theorem dX9_init_13 : decode cX9_init 13 = .ok (.aload_n 0, 1) := by decide +kernel
theorem dX9_init_14 : decode cX9_init 14 = .ok (.sipush 1407, 3) := by decide +kernel
theorem dX9_init_17 : decode cX9_init 17 = .ok (.newarray .int, 2) := by decide +kernel
theorem dX9_init_19 : decode cX9_init 19 = .ok (.putfield 13, 3) := by decide +kernel
theorem dX9_init_22 : decode cX9_init 22 = .ok (.aload_n 0, 1) := by decide +kernel
theorem dX9_init_23 : decode cX9_init 23 = .ok (.sipush 8442, 3) := by decide +kernel
theorem dX9_init_26 : decode cX9_init 26 = .ok (.newarray .int, 2) := by decide +kernel
theorem dX9_init_28 : decode cX9_init 28 = .ok (.putfield 16, 3) := by decide +kernel
theorem dX9_init_31 : decode cX9_init 31 = .ok (.aload_n 0, 1) := by decide +kernel
theorem dX9_init_32 : decode cX9_init 32 = .ok (.sipush 2814, 3) := by decide +kernel
theorem dX9_init_35 : decode cX9_init 35 = .ok (.newarray .int, 2) := by decide +kernel
theorem dX9_init_37 : decode cX9_init 37 = .ok (.putfield 19, 3) := by decide +kernel
theorem dX9_init_40 : decode cX9_init 40 = .ok (.aload_n 0, 1) := by decide +kernel
theorem dX9_init_41 : decode cX9_init 41 = .ok (.iconst 2, 1) := by decide +kernel
theorem dX9_init_42 : decode cX9_init 42 = .ok (.newarray .boolean, 2) := by decide +kernel
theorem dX9_init_44 : decode cX9_init 44 = .ok (.putfield 22, 3) := by decide +kernel
theorem dX9_init_47 : decode cX9_init 47 = .ok (.aload_n 0, 1) := by decide +kernel
theorem dX9_init_48 : decode cX9_init 48 = .ok (.bipush 64, 2) := by decide +kernel
theorem dX9_init_50 : decode cX9_init 50 = .ok (.newarray .int, 2) := by decide +kernel
theorem dX9_init_52 : decode cX9_init 52 = .ok (.putfield 26, 3) := by decide +kernel
theorem dX9_init_55 : decode cX9_init 55 = .ok (.aload_n 0, 1) := by decide +kernel
theorem dX9_init_56 : decode cX9_init 56 = .ok (.sipush 150, 3) := by decide +kernel
theorem dX9_init_59 : decode cX9_init 59 = .ok (.newarray .int, 2) := by decide +kernel
theorem dX9_init_61 : decode cX9_init 61 = .ok (.putfield 29, 3) := by decide +kernel
theorem dX9_init_64 : decode cX9_init 64 = .ok (.aload_n 0, 1) := by decide +kernel
theorem dX9_init_65 : decode cX9_init 65 = .ok (.sipush 150, 3) := by decide +kernel
theorem dX9_init_68 : decode cX9_init 68 = .ok (.newarray .int, 2) := by decide +kernel
theorem dX9_init_70 : decode cX9_init 70 = .ok (.putfield 32, 3) := by decide +kernel
theorem dX9_init_73 : decode cX9_init 73 = .ok (.aload_n 0, 1) := by decide +kernel
theorem dX9_init_74 : decode cX9_init 74 = .ok (.sipush 240, 3) := by decide +kernel
theorem dX9_init_77 : decode cX9_init 77 = .ok (.newarray .boolean, 2) := by decide +kernel
theorem dX9_init_79 : decode cX9_init 79 = .ok (.putfield 35, 3) := by decide +kernel
theorem dX9_init_82 : decode cX9_init 82 = .ok (.aload_n 0, 1) := by decide +kernel
theorem dX9_init_83 : decode cX9_init 83 = .ok (.sipush 150, 3) := by decide +kernel
theorem dX9_init_86 : decode cX9_init 86 = .ok (.newarray .int, 2) := by decide +kernel
theorem dX9_init_88 : decode cX9_init 88 = .ok (.putfield 38, 3) := by decide +kernel
theorem dX9_init_91 : decode cX9_init 91 = .ok (.aload_n 0, 1) := by decide +kernel
theorem dX9_init_92 : decode cX9_init 92 = .ok (.sipush 480, 3) := by decide +kernel
theorem dX9_init_95 : decode cX9_init 95 = .ok (.newarray .boolean, 2) := by decide +kernel
theorem dX9_init_97 : decode cX9_init 97 = .ok (.putfield 41, 3) := by decide +kernel
theorem dX9_init_100 : decode cX9_init 100 = .ok (.aload_n 0, 1) := by decide +kernel
theorem dX9_init_101 : decode cX9_init 101 = .ok (.sipush 150, 3) := by decide +kernel
theorem dX9_init_104 : decode cX9_init 104 = .ok (.newarray .int, 2) := by decide +kernel
theorem dX9_init_106 : decode cX9_init 106 = .ok (.putfield 44, 3) := by decide +kernel
theorem dX9_init_109 : decode cX9_init 109 = .ok (.aload_n 0, 1) := by decide +kernel
theorem dX9_init_110 : decode cX9_init 110 = .ok (.getfield 7, 3) := by decide +kernel
theorem dX9_init_113 : decode cX9_init 113 = .ok (.iconst 0, 1) := by decide +kernel
theorem dX9_init_114 : decode cX9_init 114 = .ok (.iconst 2, 1) := by decide +kernel
theorem dX9_init_115 : decode cX9_init 115 = .ok (.iastore, 1) := by decide +kernel
theorem dX9_init_116 : decode cX9_init 116 = .ok (.aload_n 0, 1) := by decide +kernel
theorem dX9_init_117 : decode cX9_init 117 = .ok (.getfield 7, 3) := by decide +kernel
theorem dX9_init_120 : decode cX9_init 120 = .ok (.iconst 1, 1) := by decide +kernel
theorem dX9_init_121 : decode cX9_init 121 = .ok (.bipush 6, 2) := by decide +kernel
theorem dX9_init_123 : decode cX9_init 123 = .ok (.iastore, 1) := by decide +kernel
theorem dX9_init_124 : decode cX9_init 124 = .ok (.aload_n 0, 1) := by decide +kernel
theorem dX9_init_125 : decode cX9_init 125 = .ok (.getfield 7, 3) := by decide +kernel
theorem dX9_init_128 : decode cX9_init 128 = .ok (.iconst 2, 1) := by decide +kernel
theorem dX9_init_129 : decode cX9_init 129 = .ok (.iconst 3, 1) := by decide +kernel
theorem dX9_init_130 : decode cX9_init 130 = .ok (.iastore, 1) := by decide +kernel
theorem dX9_init_131 : decode cX9_init 131 = .ok (.aload_n 0, 1) := by decide +kernel
theorem dX9_init_132 : decode cX9_init 132 = .ok (.getfield 7, 3) := by decide +kernel
theorem dX9_init_135 : decode cX9_init 135 = .ok (.iconst 3, 1) := by decide +kernel
theorem dX9_init_136 : decode cX9_init 136 = .ok (.iconst 5, 1) := by decide +kernel
theorem dX9_init_137 : decode cX9_init 137 = .ok (.iastore, 1) := by decide +kernel
theorem dX9_init_138 : decode cX9_init 138 = .ok (.aload_n 0, 1) := by decide +kernel
theorem dX9_init_139 : decode cX9_init 139 = .ok (.invokevirtual 47, 3) := by decide +kernel
theorem dX9_init_142 : decode cX9_init 142 = .ok (.aload_n 0, 1) := by decide +kernel
theorem dX9_init_143 : decode cX9_init 143 = .ok (.getfield 7, 3) := by decide +kernel
theorem dX9_init_146 : decode cX9_init 146 = .ok (.iconst 4, 1) := by decide +kernel
theorem dX9_init_147 : decode cX9_init 147 = .ok (.bipush 20, 2) := by decide +kernel
theorem dX9_init_149 : decode cX9_init 149 = .ok (.iastore, 1) := by decide +kernel
theorem dX9_init_150 : decode cX9_init 150 = .ok (.iconst 0, 1) := by decide +kernel
theorem dX9_init_151 : decode cX9_init 151 = .ok (.istore_n 1, 1) := by decide +kernel
theorem dX9_init_152 : decode cX9_init 152 = .ok (.iload_n 1, 1) := by decide +kernel
theorem dX9_init_153 : decode cX9_init 153 = .ok (.bipush 20, 2) := by decide +kernel
theorem dX9_init_155 : decode cX9_init 155 = .ok (.if_icmp .ge 21, 3) := by decide +kernel
theorem dX9_init_158 : decode cX9_init 158 = .ok (.aload_n 0, 1) := by decide +kernel
theorem dX9_init_159 : decode cX9_init 159 = .ok (.getfield 7, 3) := by decide +kernel
theorem dX9_init_162 : decode cX9_init 162 = .ok (.iconst 5, 1) := by decide +kernel
theorem dX9_init_163 : decode cX9_init 163 = .ok (.iload_n 1, 1) := by decide +kernel
theorem dX9_init_164 : decode cX9_init 164 = .ok (.iadd, 1) := by decide +kernel
theorem dX9_init_165 : decode cX9_init 165 = .ok (.bipush 120, 2) := by decide +kernel
theorem dX9_init_167 : decode cX9_init 167 = .ok (.iload_n 1, 1) := by decide +kernel
theorem dX9_init_168 : decode cX9_init 168 = .ok (.iadd, 1) := by decide +kernel
theorem dX9_init_169 : decode cX9_init 169 = .ok (.iastore, 1) := by decide +kernel
theorem dX9_init_170 : decode cX9_init 170 = .ok (.iinc 1 1, 3) := by decide +kernel
theorem dX9_init_173 : decode cX9_init 173 = .ok (.goto (-21), 3) := by decide +kernel
theorem dX9_init_176 : decode cX9_init 176 = .ok (.return_, 1) := by decide +kernel
theorem dX9_begin_0 : decode cX9_begin 0 = .ok (.iconst 4, 1) := by decide +kernel
theorem dX9_begin_1 : decode cX9_begin 1 = .ok (.istore_n 1, 1) := by decide +kernel
theorem dX9_begin_2 : decode cX9_begin 2 = .ok (.iload_n 1, 1) := by decide +kernel
theorem dX9_begin_3 : decode cX9_begin 3 = .ok (.sipush 1407, 3) := by decide +kernel
theorem dX9_begin_6 : decode cX9_begin 6 = .ok (.if_icmp .ge 16, 3) := by decide +kernel
theorem dX9_begin_9 : decode cX9_begin 9 = .ok (.aload_n 0, 1) := by decide +kernel
theorem dX9_begin_10 : decode cX9_begin 10 = .ok (.getfield 7, 3) := by decide +kernel
theorem dX9_begin_13 : decode cX9_begin 13 = .ok (.iload_n 1, 1) := by decide +kernel
theorem dX9_begin_14 : decode cX9_begin 14 = .ok (.iconst 0, 1) := by decide +kernel
theorem dX9_begin_15 : decode cX9_begin 15 = .ok (.iastore, 1) := by decide +kernel
theorem dX9_begin_16 : decode cX9_begin 16 = .ok (.iinc 1 1, 3) := by decide +kernel
theorem dX9_begin_19 : decode cX9_begin 19 = .ok (.goto (-17), 3) := by decide +kernel
theorem dX9_begin_22 : decode cX9_begin 22 = .ok (.iconst 0, 1) := by decide +kernel
theorem dX9_begin_23 : decode cX9_begin 23 = .ok (.istore_n 1, 1) := by decide +kernel
theorem dX9_begin_24 : decode cX9_begin 24 = .ok (.iload_n 1, 1) := by decide +kernel
theorem dX9_begin_25 : decode cX9_begin 25 = .ok (.sipush 240, 3) := by decide +kernel
theorem dX9_begin_28 : decode cX9_begin 28 = .ok (.if_icmp .ge 21, 3) := by decide +kernel
theorem dX9_begin_31 : decode cX9_begin 31 = .ok (.aload_n 0, 1) := by decide +kernel
theorem dX9_begin_32 : decode cX9_begin 32 = .ok (.getfield 7, 3) := by decide +kernel
theorem dX9_begin_35 : decode cX9_begin 35 = .ok (.sipush 1115, 3) := by decide +kernel
theorem dX9_begin_38 : decode cX9_begin 38 = .ok (.iload_n 1, 1) := by decide +kernel
theorem dX9_begin_39 : decode cX9_begin 39 = .ok (.iadd, 1) := by decide +kernel
theorem dX9_begin_40 : decode cX9_begin 40 = .ok (.bipush (-6), 2) := by decide +kernel
theorem dX9_begin_42 : decode cX9_begin 42 = .ok (.iastore, 1) := by decide +kernel
theorem dX9_begin_43 : decode cX9_begin 43 = .ok (.iinc 1 1, 3) := by decide +kernel
theorem dX9_begin_46 : decode cX9_begin 46 = .ok (.goto (-22), 3) := by decide +kernel
theorem dX9_begin_49 : decode cX9_begin 49 = .ok (.return_, 1) := by decide +kernel
theorem dX9_in_0 : decode cX9_in 0 = .ok (.iload_n 0, 1) := by decide +kernel
theorem dX9_in_1 : decode cX9_in 1 = .ok (.iload_n 1, 1) := by decide +kernel
theorem dX9_in_2 : decode cX9_in 2 = .ok (.if_icmp .lt 12, 3) := by decide +kernel
theorem dX9_in_5 : decode cX9_in 5 = .ok (.iload_n 0, 1) := by decide +kernel
theorem dX9_in_6 : decode cX9_in 6 = .ok (.iload_n 2, 1) := by decide +kernel
theorem dX9_in_7 : decode cX9_in 7 = .ok (.if_icmp .gt 7, 3) := by decide +kernel
theorem dX9_in_10 : decode cX9_in 10 = .ok (.iconst 1, 1) := by decide +kernel
theorem dX9_in_11 : decode cX9_in 11 = .ok (.goto 4, 3) := by decide +kernel
theorem dX9_in_14 : decode cX9_in 14 = .ok (.iconst 0, 1) := by decide +kernel
theorem dX9_in_15 : decode cX9_in 15 = .ok (.ireturn, 1) := by decide +kernel
theorem dX9_isCell_0 : decode cX9_isCell 0 = .ok (.iload_n 0, 1) := by decide +kernel
theorem dX9_isCell_1 : decode cX9_isCell 1 = .ok (.iconst 0, 1) := by decide +kernel
theorem dX9_isCell_2 : decode cX9_isCell 2 = .ok (.bipush 19, 2) := by decide +kernel
theorem dX9_isCell_4 : decode cX9_isCell 4 = .ok (.invokestatic 50, 3) := by decide +kernel
theorem dX9_isCell_7 : decode cX9_isCell 7 = .ok (.ifCond .eq 17, 3) := by decide +kernel
theorem dX9_isCell_10 : decode cX9_isCell 10 = .ok (.iload_n 1, 1) := by decide +kernel
theorem dX9_isCell_11 : decode cX9_isCell 11 = .ok (.iconst 0, 1) := by decide +kernel
theorem dX9_isCell_12 : decode cX9_isCell 12 = .ok (.bipush 11, 2) := by decide +kernel
theorem dX9_isCell_14 : decode cX9_isCell 14 = .ok (.invokestatic 50, 3) := by decide +kernel
theorem dX9_isCell_17 : decode cX9_isCell 17 = .ok (.ifCond .eq 7, 3) := by decide +kernel
theorem dX9_isCell_20 : decode cX9_isCell 20 = .ok (.iconst 1, 1) := by decide +kernel
theorem dX9_isCell_21 : decode cX9_isCell 21 = .ok (.goto 4, 3) := by decide +kernel
theorem dX9_isCell_24 : decode cX9_isCell 24 = .ok (.iconst 0, 1) := by decide +kernel
theorem dX9_isCell_25 : decode cX9_isCell 25 = .ok (.ireturn, 1) := by decide +kernel
theorem dX9_know_0 : decode cX9_know 0 = .ok (.aload_n 0, 1) := by decide +kernel
theorem dX9_know_1 : decode cX9_know 1 = .ok (.getfield 54, 3) := by decide +kernel
theorem dX9_know_4 : decode cX9_know 4 = .ok (.bipush 6, 2) := by decide +kernel
theorem dX9_know_6 : decode cX9_know 6 = .ok (.if_icmp .ne 44, 3) := by decide +kernel
theorem dX9_know_9 : decode cX9_know 9 = .ok (.iconst 0, 1) := by decide +kernel
theorem dX9_know_10 : decode cX9_know 10 = .ok (.istore_n 1, 1) := by decide +kernel
theorem dX9_know_11 : decode cX9_know 11 = .ok (.iload_n 1, 1) := by decide +kernel
theorem dX9_know_12 : decode cX9_know 12 = .ok (.sipush 7035, 3) := by decide +kernel
theorem dX9_know_15 : decode cX9_know 15 = .ok (.if_icmp .ge 25, 3) := by decide +kernel
theorem dX9_know_18 : decode cX9_know 18 = .ok (.aload_n 0, 1) := by decide +kernel
theorem dX9_know_19 : decode cX9_know 19 = .ok (.getfield 16, 3) := by decide +kernel
theorem dX9_know_22 : decode cX9_know 22 = .ok (.iload_n 1, 1) := by decide +kernel
theorem dX9_know_23 : decode cX9_know 23 = .ok (.aload_n 0, 1) := by decide +kernel
theorem dX9_know_24 : decode cX9_know 24 = .ok (.getfield 16, 3) := by decide +kernel
theorem dX9_know_27 : decode cX9_know 27 = .ok (.sipush 1407, 3) := by decide +kernel
theorem dX9_know_30 : decode cX9_know 30 = .ok (.iload_n 1, 1) := by decide +kernel
theorem dX9_know_31 : decode cX9_know 31 = .ok (.iadd, 1) := by decide +kernel
theorem dX9_know_32 : decode cX9_know 32 = .ok (.iaload, 1) := by decide +kernel
theorem dX9_know_33 : decode cX9_know 33 = .ok (.iastore, 1) := by decide +kernel
theorem dX9_know_34 : decode cX9_know 34 = .ok (.iinc 1 1, 3) := by decide +kernel
theorem dX9_know_37 : decode cX9_know 37 = .ok (.goto (-26), 3) := by decide +kernel
theorem dX9_know_40 : decode cX9_know 40 = .ok (.aload_n 0, 1) := by decide +kernel
theorem dX9_know_41 : decode cX9_know 41 = .ok (.dup, 1) := by decide +kernel
theorem dX9_know_42 : decode cX9_know 42 = .ok (.getfield 54, 3) := by decide +kernel
theorem dX9_know_45 : decode cX9_know 45 = .ok (.iconst 1, 1) := by decide +kernel
theorem dX9_know_46 : decode cX9_know 46 = .ok (.isub, 1) := by decide +kernel
theorem dX9_know_47 : decode cX9_know 47 = .ok (.putfield 54, 3) := by decide +kernel
theorem dX9_know_50 : decode cX9_know 50 = .ok (.iconst 0, 1) := by decide +kernel
theorem dX9_know_51 : decode cX9_know 51 = .ok (.istore_n 1, 1) := by decide +kernel
theorem dX9_know_52 : decode cX9_know 52 = .ok (.iload_n 1, 1) := by decide +kernel
theorem dX9_know_53 : decode cX9_know 53 = .ok (.sipush 1407, 3) := by decide +kernel
theorem dX9_know_56 : decode cX9_know 56 = .ok (.if_icmp .ge 30, 3) := by decide +kernel
theorem dX9_know_59 : decode cX9_know 59 = .ok (.aload_n 0, 1) := by decide +kernel
theorem dX9_know_60 : decode cX9_know 60 = .ok (.getfield 16, 3) := by decide +kernel
theorem dX9_know_63 : decode cX9_know 63 = .ok (.sipush 1407, 3) := by decide +kernel
theorem dX9_know_66 : decode cX9_know 66 = .ok (.aload_n 0, 1) := by decide +kernel
theorem dX9_know_67 : decode cX9_know 67 = .ok (.getfield 54, 3) := by decide +kernel
theorem dX9_know_70 : decode cX9_know 70 = .ok (.imul, 1) := by decide +kernel
theorem dX9_know_71 : decode cX9_know 71 = .ok (.iload_n 1, 1) := by decide +kernel
theorem dX9_know_72 : decode cX9_know 72 = .ok (.iadd, 1) := by decide +kernel
theorem dX9_know_73 : decode cX9_know 73 = .ok (.aload_n 0, 1) := by decide +kernel
theorem dX9_know_74 : decode cX9_know 74 = .ok (.getfield 7, 3) := by decide +kernel
theorem dX9_know_77 : decode cX9_know 77 = .ok (.iload_n 1, 1) := by decide +kernel
theorem dX9_know_78 : decode cX9_know 78 = .ok (.iaload, 1) := by decide +kernel
theorem dX9_know_79 : decode cX9_know 79 = .ok (.iastore, 1) := by decide +kernel
theorem dX9_know_80 : decode cX9_know 80 = .ok (.iinc 1 1, 3) := by decide +kernel
theorem dX9_know_83 : decode cX9_know 83 = .ok (.goto (-31), 3) := by decide +kernel
theorem dX9_know_86 : decode cX9_know 86 = .ok (.aload_n 0, 1) := by decide +kernel
theorem dX9_know_87 : decode cX9_know 87 = .ok (.dup, 1) := by decide +kernel
theorem dX9_know_88 : decode cX9_know 88 = .ok (.getfield 54, 3) := by decide +kernel
theorem dX9_know_91 : decode cX9_know 91 = .ok (.iconst 1, 1) := by decide +kernel
theorem dX9_know_92 : decode cX9_know 92 = .ok (.iadd, 1) := by decide +kernel
theorem dX9_know_93 : decode cX9_know 93 = .ok (.putfield 54, 3) := by decide +kernel
theorem dX9_know_96 : decode cX9_know 96 = .ok (.return_, 1) := by decide +kernel
theorem dX9_putAside_0 : decode cX9_putAside 0 = .ok (.iconst 0, 1) := by decide +kernel
theorem dX9_putAside_1 : decode cX9_putAside 1 = .ok (.istore_n 1, 1) := by decide +kernel
theorem dX9_putAside_2 : decode cX9_putAside 2 = .ok (.iload_n 1, 1) := by decide +kernel
theorem dX9_putAside_3 : decode cX9_putAside 3 = .ok (.sipush 1407, 3) := by decide +kernel
theorem dX9_putAside_6 : decode cX9_putAside 6 = .ok (.if_icmp .ge 21, 3) := by decide +kernel
theorem dX9_putAside_9 : decode cX9_putAside 9 = .ok (.aload_n 0, 1) := by decide +kernel
theorem dX9_putAside_10 : decode cX9_putAside 10 = .ok (.getfield 13, 3) := by decide +kernel
theorem dX9_putAside_13 : decode cX9_putAside 13 = .ok (.iload_n 1, 1) := by decide +kernel
theorem dX9_putAside_14 : decode cX9_putAside 14 = .ok (.aload_n 0, 1) := by decide +kernel
theorem dX9_putAside_15 : decode cX9_putAside 15 = .ok (.getfield 7, 3) := by decide +kernel
theorem dX9_putAside_18 : decode cX9_putAside 18 = .ok (.iload_n 1, 1) := by decide +kernel
theorem dX9_putAside_19 : decode cX9_putAside 19 = .ok (.iaload, 1) := by decide +kernel
theorem dX9_putAside_20 : decode cX9_putAside 20 = .ok (.iastore, 1) := by decide +kernel
theorem dX9_putAside_21 : decode cX9_putAside 21 = .ok (.iinc 1 1, 3) := by decide +kernel
theorem dX9_putAside_24 : decode cX9_putAside 24 = .ok (.goto (-22), 3) := by decide +kernel
theorem dX9_putAside_27 : decode cX9_putAside 27 = .ok (.return_, 1) := by decide +kernel
theorem dX9_putBack_0 : decode cX9_putBack 0 = .ok (.iconst 0, 1) := by decide +kernel
theorem dX9_putBack_1 : decode cX9_putBack 1 = .ok (.istore_n 1, 1) := by decide +kernel
theorem dX9_putBack_2 : decode cX9_putBack 2 = .ok (.iload_n 1, 1) := by decide +kernel
theorem dX9_putBack_3 : decode cX9_putBack 3 = .ok (.sipush 1407, 3) := by decide +kernel
theorem dX9_putBack_6 : decode cX9_putBack 6 = .ok (.if_icmp .ge 21, 3) := by decide +kernel
theorem dX9_putBack_9 : decode cX9_putBack 9 = .ok (.aload_n 0, 1) := by decide +kernel
theorem dX9_putBack_10 : decode cX9_putBack 10 = .ok (.getfield 7, 3) := by decide +kernel
theorem dX9_putBack_13 : decode cX9_putBack 13 = .ok (.iload_n 1, 1) := by decide +kernel
theorem dX9_putBack_14 : decode cX9_putBack 14 = .ok (.aload_n 0, 1) := by decide +kernel
theorem dX9_putBack_15 : decode cX9_putBack 15 = .ok (.getfield 13, 3) := by decide +kernel
theorem dX9_putBack_18 : decode cX9_putBack 18 = .ok (.iload_n 1, 1) := by decide +kernel
theorem dX9_putBack_19 : decode cX9_putBack 19 = .ok (.iaload, 1) := by decide +kernel
theorem dX9_putBack_20 : decode cX9_putBack 20 = .ok (.iastore, 1) := by decide +kernel
theorem dX9_putBack_21 : decode cX9_putBack 21 = .ok (.iinc 1 1, 3) := by decide +kernel
theorem dX9_putBack_24 : decode cX9_putBack 24 = .ok (.goto (-22), 3) := by decide +kernel
theorem dX9_putBack_27 : decode cX9_putBack 27 = .ok (.return_, 1) := by decide +kernel
theorem dX9_stepped_0 : decode cX9_stepped 0 = .ok (.iload_n 0, 1) := by decide +kernel
theorem dX9_stepped_1 : decode cX9_stepped 1 = .ok (.bipush 20, 2) := by decide +kernel
theorem dX9_stepped_3 : decode cX9_stepped 3 = .ok (.irem, 1) := by decide +kernel
theorem dX9_stepped_4 : decode cX9_stepped 4 = .ok (.iload_n 1, 1) := by decide +kernel
theorem dX9_stepped_5 : decode cX9_stepped 5 = .ok (.ifCond .ne 7, 3) := by decide +kernel
theorem dX9_stepped_8 : decode cX9_stepped 8 = .ok (.iconst 1, 1) := by decide +kernel
theorem dX9_stepped_9 : decode cX9_stepped 9 = .ok (.goto 13, 3) := by decide +kernel
theorem dX9_stepped_12 : decode cX9_stepped 12 = .ok (.iload_n 1, 1) := by decide +kernel
theorem dX9_stepped_13 : decode cX9_stepped 13 = .ok (.iconst 2, 1) := by decide +kernel
theorem dX9_stepped_14 : decode cX9_stepped 14 = .ok (.if_icmp .ne 7, 3) := by decide +kernel
theorem dX9_stepped_17 : decode cX9_stepped 17 = .ok (.iconst (-1), 1) := by decide +kernel
theorem dX9_stepped_18 : decode cX9_stepped 18 = .ok (.goto 4, 3) := by decide +kernel
theorem dX9_stepped_21 : decode cX9_stepped 21 = .ok (.iconst 0, 1) := by decide +kernel
theorem dX9_stepped_22 : decode cX9_stepped 22 = .ok (.iadd, 1) := by decide +kernel
theorem dX9_stepped_23 : decode cX9_stepped 23 = .ok (.istore_n 2, 1) := by decide +kernel
theorem dX9_stepped_24 : decode cX9_stepped 24 = .ok (.iload_n 0, 1) := by decide +kernel
theorem dX9_stepped_25 : decode cX9_stepped 25 = .ok (.bipush 20, 2) := by decide +kernel
theorem dX9_stepped_27 : decode cX9_stepped 27 = .ok (.idiv, 1) := by decide +kernel
theorem dX9_stepped_28 : decode cX9_stepped 28 = .ok (.iload_n 1, 1) := by decide +kernel
theorem dX9_stepped_29 : decode cX9_stepped 29 = .ok (.iconst 1, 1) := by decide +kernel
theorem dX9_stepped_30 : decode cX9_stepped 30 = .ok (.if_icmp .ne 7, 3) := by decide +kernel
theorem dX9_stepped_33 : decode cX9_stepped 33 = .ok (.iconst 1, 1) := by decide +kernel
theorem dX9_stepped_34 : decode cX9_stepped 34 = .ok (.goto 13, 3) := by decide +kernel
theorem dX9_stepped_37 : decode cX9_stepped 37 = .ok (.iload_n 1, 1) := by decide +kernel
theorem dX9_stepped_38 : decode cX9_stepped 38 = .ok (.iconst 3, 1) := by decide +kernel
theorem dX9_stepped_39 : decode cX9_stepped 39 = .ok (.if_icmp .ne 7, 3) := by decide +kernel
theorem dX9_stepped_42 : decode cX9_stepped 42 = .ok (.iconst (-1), 1) := by decide +kernel
theorem dX9_stepped_43 : decode cX9_stepped 43 = .ok (.goto 4, 3) := by decide +kernel
theorem dX9_stepped_46 : decode cX9_stepped 46 = .ok (.iconst 0, 1) := by decide +kernel
theorem dX9_stepped_47 : decode cX9_stepped 47 = .ok (.iadd, 1) := by decide +kernel
theorem dX9_stepped_48 : decode cX9_stepped 48 = .ok (.istore_n 3, 1) := by decide +kernel
theorem dX9_stepped_49 : decode cX9_stepped 49 = .ok (.iload_n 2, 1) := by decide +kernel
theorem dX9_stepped_50 : decode cX9_stepped 50 = .ok (.iload_n 3, 1) := by decide +kernel
theorem dX9_stepped_51 : decode cX9_stepped 51 = .ok (.invokestatic 58, 3) := by decide +kernel
theorem dX9_stepped_54 : decode cX9_stepped 54 = .ok (.ifCond .eq 12, 3) := by decide +kernel
theorem dX9_stepped_57 : decode cX9_stepped 57 = .ok (.bipush 20, 2) := by decide +kernel
theorem dX9_stepped_59 : decode cX9_stepped 59 = .ok (.iload_n 3, 1) := by decide +kernel
theorem dX9_stepped_60 : decode cX9_stepped 60 = .ok (.imul, 1) := by decide +kernel
theorem dX9_stepped_61 : decode cX9_stepped 61 = .ok (.iload_n 2, 1) := by decide +kernel
theorem dX9_stepped_62 : decode cX9_stepped 62 = .ok (.iadd, 1) := by decide +kernel
theorem dX9_stepped_63 : decode cX9_stepped 63 = .ok (.goto 5, 3) := by decide +kernel
theorem dX9_stepped_66 : decode cX9_stepped 66 = .ok (.bipush (-6), 2) := by decide +kernel
theorem dX9_stepped_68 : decode cX9_stepped 68 = .ok (.ireturn, 1) := by decide +kernel
theorem dX9_way_0 : decode cX9_way 0 = .ok (.aload_n 0, 1) := by decide +kernel
theorem dX9_way_1 : decode cX9_way 1 = .ok (.getfield 7, 3) := by decide +kernel
theorem dX9_way_4 : decode cX9_way 4 = .ok (.iconst 5, 1) := by decide +kernel
theorem dX9_way_5 : decode cX9_way 5 = .ok (.iload_n 1, 1) := by decide +kernel
theorem dX9_way_6 : decode cX9_way 6 = .ok (.iadd, 1) := by decide +kernel
theorem dX9_way_7 : decode cX9_way 7 = .ok (.iconst 1, 1) := by decide +kernel
theorem dX9_way_8 : decode cX9_way 8 = .ok (.iadd, 1) := by decide +kernel
theorem dX9_way_9 : decode cX9_way 9 = .ok (.iaload, 1) := by decide +kernel
theorem dX9_way_10 : decode cX9_way 10 = .ok (.aload_n 0, 1) := by decide +kernel
theorem dX9_way_11 : decode cX9_way 11 = .ok (.getfield 7, 3) := by decide +kernel
theorem dX9_way_14 : decode cX9_way 14 = .ok (.iconst 5, 1) := by decide +kernel
theorem dX9_way_15 : decode cX9_way 15 = .ok (.iload_n 1, 1) := by decide +kernel
theorem dX9_way_16 : decode cX9_way 16 = .ok (.iadd, 1) := by decide +kernel
theorem dX9_way_17 : decode cX9_way 17 = .ok (.iaload, 1) := by decide +kernel
theorem dX9_way_18 : decode cX9_way 18 = .ok (.isub, 1) := by decide +kernel
theorem dX9_way_19 : decode cX9_way 19 = .ok (.istore_n 2, 1) := by decide +kernel
theorem dX9_way_20 : decode cX9_way 20 = .ok (.iload_n 2, 1) := by decide +kernel
theorem dX9_way_21 : decode cX9_way 21 = .ok (.iconst 1, 1) := by decide +kernel
theorem dX9_way_22 : decode cX9_way 22 = .ok (.if_icmp .ne 7, 3) := by decide +kernel
theorem dX9_way_25 : decode cX9_way 25 = .ok (.iconst 0, 1) := by decide +kernel
theorem dX9_way_26 : decode cX9_way 26 = .ok (.goto 23, 3) := by decide +kernel
theorem dX9_way_29 : decode cX9_way 29 = .ok (.iload_n 2, 1) := by decide +kernel
theorem dX9_way_30 : decode cX9_way 30 = .ok (.bipush 20, 2) := by decide +kernel
theorem dX9_way_32 : decode cX9_way 32 = .ok (.if_icmp .ne 7, 3) := by decide +kernel
theorem dX9_way_35 : decode cX9_way 35 = .ok (.iconst 1, 1) := by decide +kernel
theorem dX9_way_36 : decode cX9_way 36 = .ok (.goto 13, 3) := by decide +kernel
theorem dX9_way_39 : decode cX9_way 39 = .ok (.iload_n 2, 1) := by decide +kernel
theorem dX9_way_40 : decode cX9_way 40 = .ok (.iconst (-1), 1) := by decide +kernel
theorem dX9_way_41 : decode cX9_way 41 = .ok (.if_icmp .ne 7, 3) := by decide +kernel
theorem dX9_way_44 : decode cX9_way 44 = .ok (.iconst 2, 1) := by decide +kernel
theorem dX9_way_45 : decode cX9_way 45 = .ok (.goto 4, 3) := by decide +kernel
theorem dX9_way_48 : decode cX9_way 48 = .ok (.iconst 3, 1) := by decide +kernel
theorem dX9_way_49 : decode cX9_way 49 = .ok (.ireturn, 1) := by decide +kernel
theorem dX9_numberOf_0 : decode cX9_numberOf 0 = .ok (.bipush (-6), 2) := by decide +kernel
theorem dX9_numberOf_2 : decode cX9_numberOf 2 = .ok (.istore_n 2, 1) := by decide +kernel
theorem dX9_numberOf_3 : decode cX9_numberOf 3 = .ok (.iconst 0, 1) := by decide +kernel
theorem dX9_numberOf_4 : decode cX9_numberOf 4 = .ok (.istore_n 3, 1) := by decide +kernel
theorem dX9_numberOf_5 : decode cX9_numberOf 5 = .ok (.iload_n 3, 1) := by decide +kernel
theorem dX9_numberOf_6 : decode cX9_numberOf 6 = .ok (.aload_n 0, 1) := by decide +kernel
theorem dX9_numberOf_7 : decode cX9_numberOf 7 = .ok (.getfield 7, 3) := by decide +kernel
theorem dX9_numberOf_10 : decode cX9_numberOf 10 = .ok (.iconst 4, 1) := by decide +kernel
theorem dX9_numberOf_11 : decode cX9_numberOf 11 = .ok (.iaload, 1) := by decide +kernel
theorem dX9_numberOf_12 : decode cX9_numberOf 12 = .ok (.if_icmp .ge 27, 3) := by decide +kernel
theorem dX9_numberOf_15 : decode cX9_numberOf 15 = .ok (.aload_n 0, 1) := by decide +kernel
theorem dX9_numberOf_16 : decode cX9_numberOf 16 = .ok (.getfield 7, 3) := by decide +kernel
theorem dX9_numberOf_19 : decode cX9_numberOf 19 = .ok (.iconst 5, 1) := by decide +kernel
theorem dX9_numberOf_20 : decode cX9_numberOf 20 = .ok (.iload_n 3, 1) := by decide +kernel
theorem dX9_numberOf_21 : decode cX9_numberOf 21 = .ok (.iadd, 1) := by decide +kernel
theorem dX9_numberOf_22 : decode cX9_numberOf 22 = .ok (.iaload, 1) := by decide +kernel
theorem dX9_numberOf_23 : decode cX9_numberOf 23 = .ok (.iload_n 1, 1) := by decide +kernel
theorem dX9_numberOf_24 : decode cX9_numberOf 24 = .ok (.if_icmp .ne 7, 3) := by decide +kernel
theorem dX9_numberOf_27 : decode cX9_numberOf 27 = .ok (.iload_n 3, 1) := by decide +kernel
theorem dX9_numberOf_28 : decode cX9_numberOf 28 = .ok (.goto 4, 3) := by decide +kernel
theorem dX9_numberOf_31 : decode cX9_numberOf 31 = .ok (.iload_n 2, 1) := by decide +kernel
theorem dX9_numberOf_32 : decode cX9_numberOf 32 = .ok (.istore_n 2, 1) := by decide +kernel
theorem dX9_numberOf_33 : decode cX9_numberOf 33 = .ok (.iinc 3 1, 3) := by decide +kernel
theorem dX9_numberOf_36 : decode cX9_numberOf 36 = .ok (.goto (-31), 3) := by decide +kernel
theorem dX9_numberOf_39 : decode cX9_numberOf 39 = .ok (.iload_n 2, 1) := by decide +kernel
theorem dX9_numberOf_40 : decode cX9_numberOf 40 = .ok (.ireturn, 1) := by decide +kernel
theorem dX9_findBends_0 : decode cX9_findBends 0 = .ok (.iconst 0, 1) := by decide +kernel
theorem dX9_findBends_1 : decode cX9_findBends 1 = .ok (.istore_n 1, 1) := by decide +kernel
theorem dX9_findBends_2 : decode cX9_findBends 2 = .ok (.iload_n 1, 1) := by decide +kernel
theorem dX9_findBends_3 : decode cX9_findBends 3 = .ok (.sipush 240, 3) := by decide +kernel
theorem dX9_findBends_6 : decode cX9_findBends 6 = .ok (.if_icmp .ge 16, 3) := by decide +kernel
theorem dX9_findBends_9 : decode cX9_findBends 9 = .ok (.aload_n 0, 1) := by decide +kernel
theorem dX9_findBends_10 : decode cX9_findBends 10 = .ok (.getfield 35, 3) := by decide +kernel
theorem dX9_findBends_13 : decode cX9_findBends 13 = .ok (.iload_n 1, 1) := by decide +kernel
theorem dX9_findBends_14 : decode cX9_findBends 14 = .ok (.iconst 0, 1) := by decide +kernel
theorem dX9_findBends_15 : decode cX9_findBends 15 = .ok (.bastore, 1) := by decide +kernel
theorem dX9_findBends_16 : decode cX9_findBends 16 = .ok (.iinc 1 1, 3) := by decide +kernel
theorem dX9_findBends_19 : decode cX9_findBends 19 = .ok (.goto (-17), 3) := by decide +kernel
theorem dX9_findBends_22 : decode cX9_findBends 22 = .ok (.iconst 0, 1) := by decide +kernel
theorem dX9_findBends_23 : decode cX9_findBends 23 = .ok (.istore_n 1, 1) := by decide +kernel
theorem dX9_findBends_24 : decode cX9_findBends 24 = .ok (.iload_n 1, 1) := by decide +kernel
theorem dX9_findBends_25 : decode cX9_findBends 25 = .ok (.aload_n 0, 1) := by decide +kernel
theorem dX9_findBends_26 : decode cX9_findBends 26 = .ok (.getfield 7, 3) := by decide +kernel
theorem dX9_findBends_29 : decode cX9_findBends 29 = .ok (.iconst 4, 1) := by decide +kernel
theorem dX9_findBends_30 : decode cX9_findBends 30 = .ok (.iaload, 1) := by decide +kernel
theorem dX9_findBends_31 : decode cX9_findBends 31 = .ok (.if_icmp .ge 23, 3) := by decide +kernel
theorem dX9_findBends_34 : decode cX9_findBends 34 = .ok (.aload_n 0, 1) := by decide +kernel
theorem dX9_findBends_35 : decode cX9_findBends 35 = .ok (.getfield 35, 3) := by decide +kernel
theorem dX9_findBends_38 : decode cX9_findBends 38 = .ok (.aload_n 0, 1) := by decide +kernel
theorem dX9_findBends_39 : decode cX9_findBends 39 = .ok (.getfield 7, 3) := by decide +kernel
theorem dX9_findBends_42 : decode cX9_findBends 42 = .ok (.iconst 5, 1) := by decide +kernel
theorem dX9_findBends_43 : decode cX9_findBends 43 = .ok (.iload_n 1, 1) := by decide +kernel
theorem dX9_findBends_44 : decode cX9_findBends 44 = .ok (.iadd, 1) := by decide +kernel
theorem dX9_findBends_45 : decode cX9_findBends 45 = .ok (.iaload, 1) := by decide +kernel
theorem dX9_findBends_46 : decode cX9_findBends 46 = .ok (.iconst 1, 1) := by decide +kernel
theorem dX9_findBends_47 : decode cX9_findBends 47 = .ok (.bastore, 1) := by decide +kernel
theorem dX9_findBends_48 : decode cX9_findBends 48 = .ok (.iinc 1 1, 3) := by decide +kernel
theorem dX9_findBends_51 : decode cX9_findBends 51 = .ok (.goto (-27), 3) := by decide +kernel
theorem dX9_findBends_54 : decode cX9_findBends 54 = .ok (.aload_n 0, 1) := by decide +kernel
theorem dX9_findBends_55 : decode cX9_findBends 55 = .ok (.iconst 0, 1) := by decide +kernel
theorem dX9_findBends_56 : decode cX9_findBends 56 = .ok (.putfield 62, 3) := by decide +kernel
theorem dX9_findBends_59 : decode cX9_findBends 59 = .ok (.iconst 0, 1) := by decide +kernel
theorem dX9_findBends_60 : decode cX9_findBends 60 = .ok (.istore_n 1, 1) := by decide +kernel
theorem dX9_findBends_61 : decode cX9_findBends 61 = .ok (.iconst 1, 1) := by decide +kernel
theorem dX9_findBends_62 : decode cX9_findBends 62 = .ok (.istore_n 2, 1) := by decide +kernel
theorem dX9_findBends_63 : decode cX9_findBends 63 = .ok (.iload_n 2, 1) := by decide +kernel
theorem dX9_findBends_64 : decode cX9_findBends 64 = .ok (.aload_n 0, 1) := by decide +kernel
theorem dX9_findBends_65 : decode cX9_findBends 65 = .ok (.getfield 7, 3) := by decide +kernel
theorem dX9_findBends_68 : decode cX9_findBends 68 = .ok (.iconst 4, 1) := by decide +kernel
theorem dX9_findBends_69 : decode cX9_findBends 69 = .ok (.iaload, 1) := by decide +kernel
theorem dX9_findBends_70 : decode cX9_findBends 70 = .ok (.iconst 1, 1) := by decide +kernel
theorem dX9_findBends_71 : decode cX9_findBends 71 = .ok (.isub, 1) := by decide +kernel
theorem dX9_findBends_72 : decode cX9_findBends 72 = .ok (.if_icmp .ge 79, 3) := by decide +kernel
theorem dX9_findBends_75 : decode cX9_findBends 75 = .ok (.aload_n 0, 1) := by decide +kernel
theorem dX9_findBends_76 : decode cX9_findBends 76 = .ok (.iload_n 2, 1) := by decide +kernel
theorem dX9_findBends_77 : decode cX9_findBends 77 = .ok (.invokevirtual 65, 3) := by decide +kernel
theorem dX9_findBends_80 : decode cX9_findBends 80 = .ok (.aload_n 0, 1) := by decide +kernel
theorem dX9_findBends_81 : decode cX9_findBends 81 = .ok (.iload_n 2, 1) := by decide +kernel
theorem dX9_findBends_82 : decode cX9_findBends 82 = .ok (.iconst 1, 1) := by decide +kernel
theorem dX9_findBends_83 : decode cX9_findBends 83 = .ok (.isub, 1) := by decide +kernel
theorem dX9_findBends_84 : decode cX9_findBends 84 = .ok (.invokevirtual 65, 3) := by decide +kernel
theorem dX9_findBends_87 : decode cX9_findBends 87 = .ok (.if_icmp .eq 58, 3) := by decide +kernel
theorem dX9_findBends_90 : decode cX9_findBends 90 = .ok (.iload_n 1, 1) := by decide +kernel
theorem dX9_findBends_91 : decode cX9_findBends 91 = .ok (.ifCond .le 52, 3) := by decide +kernel
theorem dX9_findBends_94 : decode cX9_findBends 94 = .ok (.aload_n 0, 1) := by decide +kernel
theorem dX9_findBends_95 : decode cX9_findBends 95 = .ok (.iload_n 2, 1) := by decide +kernel
theorem dX9_findBends_96 : decode cX9_findBends 96 = .ok (.invokevirtual 65, 3) := by decide +kernel
theorem dX9_findBends_99 : decode cX9_findBends 99 = .ok (.aload_n 0, 1) := by decide +kernel
theorem dX9_findBends_100 : decode cX9_findBends 100 = .ok (.iload_n 1, 1) := by decide +kernel
theorem dX9_findBends_101 : decode cX9_findBends 101 = .ok (.iconst 1, 1) := by decide +kernel
theorem dX9_findBends_102 : decode cX9_findBends 102 = .ok (.isub, 1) := by decide +kernel
theorem dX9_findBends_103 : decode cX9_findBends 103 = .ok (.invokevirtual 65, 3) := by decide +kernel
theorem dX9_findBends_106 : decode cX9_findBends 106 = .ok (.iconst 2, 1) := by decide +kernel
theorem dX9_findBends_107 : decode cX9_findBends 107 = .ok (.iadd, 1) := by decide +kernel
theorem dX9_findBends_108 : decode cX9_findBends 108 = .ok (.iconst 4, 1) := by decide +kernel
theorem dX9_findBends_109 : decode cX9_findBends 109 = .ok (.irem, 1) := by decide +kernel
theorem dX9_findBends_110 : decode cX9_findBends 110 = .ok (.if_icmp .ne 33, 3) := by decide +kernel
theorem dX9_findBends_113 : decode cX9_findBends 113 = .ok (.aload_n 0, 1) := by decide +kernel
theorem dX9_findBends_114 : decode cX9_findBends 114 = .ok (.getfield 29, 3) := by decide +kernel
theorem dX9_findBends_117 : decode cX9_findBends 117 = .ok (.aload_n 0, 1) := by decide +kernel
theorem dX9_findBends_118 : decode cX9_findBends 118 = .ok (.getfield 62, 3) := by decide +kernel
theorem dX9_findBends_121 : decode cX9_findBends 121 = .ok (.iload_n 1, 1) := by decide +kernel
theorem dX9_findBends_122 : decode cX9_findBends 122 = .ok (.iastore, 1) := by decide +kernel
theorem dX9_findBends_123 : decode cX9_findBends 123 = .ok (.aload_n 0, 1) := by decide +kernel
theorem dX9_findBends_124 : decode cX9_findBends 124 = .ok (.getfield 32, 3) := by decide +kernel
theorem dX9_findBends_127 : decode cX9_findBends 127 = .ok (.aload_n 0, 1) := by decide +kernel
theorem dX9_findBends_128 : decode cX9_findBends 128 = .ok (.getfield 62, 3) := by decide +kernel
theorem dX9_findBends_131 : decode cX9_findBends 131 = .ok (.iload_n 2, 1) := by decide +kernel
theorem dX9_findBends_132 : decode cX9_findBends 132 = .ok (.iastore, 1) := by decide +kernel
theorem dX9_findBends_133 : decode cX9_findBends 133 = .ok (.aload_n 0, 1) := by decide +kernel
theorem dX9_findBends_134 : decode cX9_findBends 134 = .ok (.dup, 1) := by decide +kernel
theorem dX9_findBends_135 : decode cX9_findBends 135 = .ok (.getfield 62, 3) := by decide +kernel
theorem dX9_findBends_138 : decode cX9_findBends 138 = .ok (.iconst 1, 1) := by decide +kernel
theorem dX9_findBends_139 : decode cX9_findBends 139 = .ok (.iadd, 1) := by decide +kernel
theorem dX9_findBends_140 : decode cX9_findBends 140 = .ok (.putfield 62, 3) := by decide +kernel
theorem dX9_findBends_143 : decode cX9_findBends 143 = .ok (.iload_n 2, 1) := by decide +kernel
theorem dX9_findBends_144 : decode cX9_findBends 144 = .ok (.istore_n 1, 1) := by decide +kernel
theorem dX9_findBends_145 : decode cX9_findBends 145 = .ok (.iinc 2 1, 3) := by decide +kernel
theorem dX9_findBends_148 : decode cX9_findBends 148 = .ok (.goto (-85), 3) := by decide +kernel
theorem dX9_findBends_151 : decode cX9_findBends 151 = .ok (.return_, 1) := by decide +kernel
theorem dX9_wayOf_0 : decode cX9_wayOf 0 = .ok (.aload_n 0, 1) := by decide +kernel
theorem dX9_wayOf_1 : decode cX9_wayOf 1 = .ok (.aload_n 0, 1) := by decide +kernel
theorem dX9_wayOf_2 : decode cX9_wayOf 2 = .ok (.getfield 29, 3) := by decide +kernel
theorem dX9_wayOf_5 : decode cX9_wayOf 5 = .ok (.iload_n 1, 1) := by decide +kernel
theorem dX9_wayOf_6 : decode cX9_wayOf 6 = .ok (.iaload, 1) := by decide +kernel
theorem dX9_wayOf_7 : decode cX9_wayOf 7 = .ok (.iconst 1, 1) := by decide +kernel
theorem dX9_wayOf_8 : decode cX9_wayOf 8 = .ok (.isub, 1) := by decide +kernel
theorem dX9_wayOf_9 : decode cX9_wayOf 9 = .ok (.invokevirtual 65, 3) := by decide +kernel
theorem dX9_wayOf_12 : decode cX9_wayOf 12 = .ok (.ireturn, 1) := by decide +kernel
theorem dX9_bank_0 : decode cX9_bank 0 = .ok (.aload_n 0, 1) := by decide +kernel
theorem dX9_bank_1 : decode cX9_bank 1 = .ok (.getfield 7, 3) := by decide +kernel
theorem dX9_bank_4 : decode cX9_bank 4 = .ok (.iconst 5, 1) := by decide +kernel
theorem dX9_bank_5 : decode cX9_bank 5 = .ok (.iload_n 2, 1) := by decide +kernel
theorem dX9_bank_6 : decode cX9_bank 6 = .ok (.iadd, 1) := by decide +kernel
theorem dX9_bank_7 : decode cX9_bank 7 = .ok (.iaload, 1) := by decide +kernel
theorem dX9_bank_8 : decode cX9_bank 8 = .ok (.aload_n 0, 1) := by decide +kernel
theorem dX9_bank_9 : decode cX9_bank 9 = .ok (.iload_n 1, 1) := by decide +kernel
theorem dX9_bank_10 : decode cX9_bank 10 = .ok (.invokevirtual 69, 3) := by decide +kernel
theorem dX9_bank_13 : decode cX9_bank 13 = .ok (.invokestatic 72, 3) := by decide +kernel
theorem dX9_bank_16 : decode cX9_bank 16 = .ok (.ireturn, 1) := by decide +kernel
theorem dX9_isFirm_0 : decode cX9_isFirm 0 = .ok (.iconst 0, 1) := by decide +kernel
theorem dX9_isFirm_1 : decode cX9_isFirm 1 = .ok (.istore_n 2, 1) := by decide +kernel
theorem dX9_isFirm_2 : decode cX9_isFirm 2 = .ok (.aload_n 0, 1) := by decide +kernel
theorem dX9_isFirm_3 : decode cX9_isFirm 3 = .ok (.getfield 29, 3) := by decide +kernel
theorem dX9_isFirm_6 : decode cX9_isFirm 6 = .ok (.iload_n 1, 1) := by decide +kernel
theorem dX9_isFirm_7 : decode cX9_isFirm 7 = .ok (.iaload, 1) := by decide +kernel
theorem dX9_isFirm_8 : decode cX9_isFirm 8 = .ok (.istore_n 3, 1) := by decide +kernel
theorem dX9_isFirm_9 : decode cX9_isFirm 9 = .ok (.iload_n 3, 1) := by decide +kernel
theorem dX9_isFirm_10 : decode cX9_isFirm 10 = .ok (.aload_n 0, 1) := by decide +kernel
theorem dX9_isFirm_11 : decode cX9_isFirm 11 = .ok (.getfield 32, 3) := by decide +kernel
theorem dX9_isFirm_14 : decode cX9_isFirm 14 = .ok (.iload_n 1, 1) := by decide +kernel
theorem dX9_isFirm_15 : decode cX9_isFirm 15 = .ok (.iaload, 1) := by decide +kernel
theorem dX9_isFirm_16 : decode cX9_isFirm 16 = .ok (.if_icmp .gt 59, 3) := by decide +kernel
theorem dX9_isFirm_19 : decode cX9_isFirm 19 = .ok (.iload_n 2, 1) := by decide +kernel
theorem dX9_isFirm_20 : decode cX9_isFirm 20 = .ok (.ifCond .ne 55, 3) := by decide +kernel
theorem dX9_isFirm_23 : decode cX9_isFirm 23 = .ok (.aload_n 0, 1) := by decide +kernel
theorem dX9_isFirm_24 : decode cX9_isFirm 24 = .ok (.iload_n 1, 1) := by decide +kernel
theorem dX9_isFirm_25 : decode cX9_isFirm 25 = .ok (.iload_n 3, 1) := by decide +kernel
theorem dX9_isFirm_26 : decode cX9_isFirm 26 = .ok (.invokevirtual 76, 3) := by decide +kernel
theorem dX9_isFirm_29 : decode cX9_isFirm 29 = .ok (.istore 4, 2) := by decide +kernel
theorem dX9_isFirm_31 : decode cX9_isFirm 31 = .ok (.iload 4, 2) := by decide +kernel
theorem dX9_isFirm_33 : decode cX9_isFirm 33 = .ok (.bipush (-6), 2) := by decide +kernel
theorem dX9_isFirm_35 : decode cX9_isFirm 35 = .ok (.if_icmp .eq 28, 3) := by decide +kernel
theorem dX9_isFirm_38 : decode cX9_isFirm 38 = .ok (.aload_n 0, 1) := by decide +kernel
theorem dX9_isFirm_39 : decode cX9_isFirm 39 = .ok (.getfield 7, 3) := by decide +kernel
theorem dX9_isFirm_42 : decode cX9_isFirm 42 = .ok (.sipush 395, 3) := by decide +kernel
theorem dX9_isFirm_45 : decode cX9_isFirm 45 = .ok (.iload 4, 2) := by decide +kernel
theorem dX9_isFirm_47 : decode cX9_isFirm 47 = .ok (.iadd, 1) := by decide +kernel
theorem dX9_isFirm_48 : decode cX9_isFirm 48 = .ok (.iaload, 1) := by decide +kernel
theorem dX9_isFirm_49 : decode cX9_isFirm 49 = .ok (.iconst 1, 1) := by decide +kernel
theorem dX9_isFirm_50 : decode cX9_isFirm 50 = .ok (.if_icmp .eq 13, 3) := by decide +kernel
theorem dX9_isFirm_53 : decode cX9_isFirm 53 = .ok (.aload_n 0, 1) := by decide +kernel
theorem dX9_isFirm_54 : decode cX9_isFirm 54 = .ok (.getfield 35, 3) := by decide +kernel
theorem dX9_isFirm_57 : decode cX9_isFirm 57 = .ok (.iload 4, 2) := by decide +kernel
theorem dX9_isFirm_59 : decode cX9_isFirm 59 = .ok (.baload, 1) := by decide +kernel
theorem dX9_isFirm_60 : decode cX9_isFirm 60 = .ok (.ifCond .eq 7, 3) := by decide +kernel
theorem dX9_isFirm_63 : decode cX9_isFirm 63 = .ok (.iconst 1, 1) := by decide +kernel
theorem dX9_isFirm_64 : decode cX9_isFirm 64 = .ok (.goto 4, 3) := by decide +kernel
theorem dX9_isFirm_67 : decode cX9_isFirm 67 = .ok (.iconst 0, 1) := by decide +kernel
theorem dX9_isFirm_68 : decode cX9_isFirm 68 = .ok (.istore_n 2, 1) := by decide +kernel
theorem dX9_isFirm_69 : decode cX9_isFirm 69 = .ok (.iinc 3 1, 3) := by decide +kernel
theorem dX9_isFirm_72 : decode cX9_isFirm 72 = .ok (.goto (-63), 3) := by decide +kernel
theorem dX9_isFirm_75 : decode cX9_isFirm 75 = .ok (.iload_n 2, 1) := by decide +kernel
theorem dX9_isFirm_76 : decode cX9_isFirm 76 = .ok (.ireturn, 1) := by decide +kernel
theorem dX9_leastWear_0 : decode cX9_leastWear 0 = .ok (.bipush 99, 2) := by decide +kernel
theorem dX9_leastWear_2 : decode cX9_leastWear 2 = .ok (.istore_n 2, 1) := by decide +kernel
theorem dX9_leastWear_3 : decode cX9_leastWear 3 = .ok (.aload_n 0, 1) := by decide +kernel
theorem dX9_leastWear_4 : decode cX9_leastWear 4 = .ok (.getfield 29, 3) := by decide +kernel
theorem dX9_leastWear_7 : decode cX9_leastWear 7 = .ok (.iload_n 1, 1) := by decide +kernel
theorem dX9_leastWear_8 : decode cX9_leastWear 8 = .ok (.iaload, 1) := by decide +kernel
theorem dX9_leastWear_9 : decode cX9_leastWear 9 = .ok (.istore_n 3, 1) := by decide +kernel
theorem dX9_leastWear_10 : decode cX9_leastWear 10 = .ok (.iload_n 3, 1) := by decide +kernel
theorem dX9_leastWear_11 : decode cX9_leastWear 11 = .ok (.aload_n 0, 1) := by decide +kernel
theorem dX9_leastWear_12 : decode cX9_leastWear 12 = .ok (.getfield 32, 3) := by decide +kernel
theorem dX9_leastWear_15 : decode cX9_leastWear 15 = .ok (.iload_n 1, 1) := by decide +kernel
theorem dX9_leastWear_16 : decode cX9_leastWear 16 = .ok (.iaload, 1) := by decide +kernel
theorem dX9_leastWear_17 : decode cX9_leastWear 17 = .ok (.if_icmp .gt 39, 3) := by decide +kernel
theorem dX9_leastWear_20 : decode cX9_leastWear 20 = .ok (.aload_n 0, 1) := by decide +kernel
theorem dX9_leastWear_21 : decode cX9_leastWear 21 = .ok (.getfield 7, 3) := by decide +kernel
theorem dX9_leastWear_24 : decode cX9_leastWear 24 = .ok (.sipush 155, 3) := by decide +kernel
theorem dX9_leastWear_27 : decode cX9_leastWear 27 = .ok (.aload_n 0, 1) := by decide +kernel
theorem dX9_leastWear_28 : decode cX9_leastWear 28 = .ok (.iload_n 1, 1) := by decide +kernel
theorem dX9_leastWear_29 : decode cX9_leastWear 29 = .ok (.iload_n 3, 1) := by decide +kernel
theorem dX9_leastWear_30 : decode cX9_leastWear 30 = .ok (.invokevirtual 76, 3) := by decide +kernel
theorem dX9_leastWear_33 : decode cX9_leastWear 33 = .ok (.iadd, 1) := by decide +kernel
theorem dX9_leastWear_34 : decode cX9_leastWear 34 = .ok (.iaload, 1) := by decide +kernel
theorem dX9_leastWear_35 : decode cX9_leastWear 35 = .ok (.istore 4, 2) := by decide +kernel
theorem dX9_leastWear_37 : decode cX9_leastWear 37 = .ok (.iload 4, 2) := by decide +kernel
theorem dX9_leastWear_39 : decode cX9_leastWear 39 = .ok (.iload_n 2, 1) := by decide +kernel
theorem dX9_leastWear_40 : decode cX9_leastWear 40 = .ok (.if_icmp .ge 8, 3) := by decide +kernel
theorem dX9_leastWear_43 : decode cX9_leastWear 43 = .ok (.iload 4, 2) := by decide +kernel
theorem dX9_leastWear_45 : decode cX9_leastWear 45 = .ok (.goto 4, 3) := by decide +kernel
theorem dX9_leastWear_48 : decode cX9_leastWear 48 = .ok (.iload_n 2, 1) := by decide +kernel
theorem dX9_leastWear_49 : decode cX9_leastWear 49 = .ok (.istore_n 2, 1) := by decide +kernel
theorem dX9_leastWear_50 : decode cX9_leastWear 50 = .ok (.iinc 3 1, 3) := by decide +kernel
theorem dX9_leastWear_53 : decode cX9_leastWear 53 = .ok (.goto (-43), 3) := by decide +kernel
theorem dX9_leastWear_56 : decode cX9_leastWear 56 = .ok (.iload_n 2, 1) := by decide +kernel
theorem dX9_leastWear_57 : decode cX9_leastWear 57 = .ok (.ireturn, 1) := by decide +kernel
theorem dX9_canGrow_0 : decode cX9_canGrow 0 = .ok (.aload_n 0, 1) := by decide +kernel
theorem dX9_canGrow_1 : decode cX9_canGrow 1 = .ok (.getfield 7, 3) := by decide +kernel
theorem dX9_canGrow_4 : decode cX9_canGrow 4 = .ok (.iconst 4, 1) := by decide +kernel
theorem dX9_canGrow_5 : decode cX9_canGrow 5 = .ok (.iaload, 1) := by decide +kernel
theorem dX9_canGrow_6 : decode cX9_canGrow 6 = .ok (.sipush 148, 3) := by decide +kernel
theorem dX9_canGrow_9 : decode cX9_canGrow 9 = .ok (.if_icmp .gt 29, 3) := by decide +kernel
theorem dX9_canGrow_12 : decode cX9_canGrow 12 = .ok (.aload_n 0, 1) := by decide +kernel
theorem dX9_canGrow_13 : decode cX9_canGrow 13 = .ok (.iload_n 1, 1) := by decide +kernel
theorem dX9_canGrow_14 : decode cX9_canGrow 14 = .ok (.invokevirtual 79, 3) := by decide +kernel
theorem dX9_canGrow_17 : decode cX9_canGrow 17 = .ok (.ifCond .ne 21, 3) := by decide +kernel
theorem dX9_canGrow_20 : decode cX9_canGrow 20 = .ok (.aload_n 0, 1) := by decide +kernel
theorem dX9_canGrow_21 : decode cX9_canGrow 21 = .ok (.iload_n 1, 1) := by decide +kernel
theorem dX9_canGrow_22 : decode cX9_canGrow 22 = .ok (.invokevirtual 83, 3) := by decide +kernel
theorem dX9_canGrow_25 : decode cX9_canGrow 25 = .ok (.aload_n 0, 1) := by decide +kernel
theorem dX9_canGrow_26 : decode cX9_canGrow 26 = .ok (.getfield 7, 3) := by decide +kernel
theorem dX9_canGrow_29 : decode cX9_canGrow 29 = .ok (.iconst 1, 1) := by decide +kernel
theorem dX9_canGrow_30 : decode cX9_canGrow 30 = .ok (.iaload, 1) := by decide +kernel
theorem dX9_canGrow_31 : decode cX9_canGrow 31 = .ok (.if_icmp .lt 7, 3) := by decide +kernel
theorem dX9_canGrow_34 : decode cX9_canGrow 34 = .ok (.iconst 1, 1) := by decide +kernel
theorem dX9_canGrow_35 : decode cX9_canGrow 35 = .ok (.goto 4, 3) := by decide +kernel
theorem dX9_canGrow_38 : decode cX9_canGrow 38 = .ok (.iconst 0, 1) := by decide +kernel
theorem dX9_canGrow_39 : decode cX9_canGrow 39 = .ok (.ireturn, 1) := by decide +kernel
theorem dX9_dropOxbow_0 : decode cX9_dropOxbow 0 = .ok (.iconst 0, 1) := by decide +kernel
theorem dX9_dropOxbow_1 : decode cX9_dropOxbow 1 = .ok (.istore_n 2, 1) := by decide +kernel
theorem dX9_dropOxbow_2 : decode cX9_dropOxbow 2 = .ok (.iload_n 2, 1) := by decide +kernel
theorem dX9_dropOxbow_3 : decode cX9_dropOxbow 3 = .ok (.sipush 240, 3) := by decide +kernel
theorem dX9_dropOxbow_6 : decode cX9_dropOxbow 6 = .ok (.if_icmp .ge 52, 3) := by decide +kernel
theorem dX9_dropOxbow_9 : decode cX9_dropOxbow 9 = .ok (.aload_n 0, 1) := by decide +kernel
theorem dX9_dropOxbow_10 : decode cX9_dropOxbow 10 = .ok (.getfield 7, 3) := by decide +kernel
theorem dX9_dropOxbow_13 : decode cX9_dropOxbow 13 = .ok (.sipush 1115, 3) := by decide +kernel
theorem dX9_dropOxbow_16 : decode cX9_dropOxbow 16 = .ok (.iload_n 2, 1) := by decide +kernel
theorem dX9_dropOxbow_17 : decode cX9_dropOxbow 17 = .ok (.iadd, 1) := by decide +kernel
theorem dX9_dropOxbow_18 : decode cX9_dropOxbow 18 = .ok (.iaload, 1) := by decide +kernel
theorem dX9_dropOxbow_19 : decode cX9_dropOxbow 19 = .ok (.istore_n 3, 1) := by decide +kernel
theorem dX9_dropOxbow_20 : decode cX9_dropOxbow 20 = .ok (.aload_n 0, 1) := by decide +kernel
theorem dX9_dropOxbow_21 : decode cX9_dropOxbow 21 = .ok (.getfield 7, 3) := by decide +kernel
theorem dX9_dropOxbow_24 : decode cX9_dropOxbow 24 = .ok (.sipush 1115, 3) := by decide +kernel
theorem dX9_dropOxbow_27 : decode cX9_dropOxbow 27 = .ok (.iload_n 2, 1) := by decide +kernel
theorem dX9_dropOxbow_28 : decode cX9_dropOxbow 28 = .ok (.iadd, 1) := by decide +kernel
theorem dX9_dropOxbow_29 : decode cX9_dropOxbow 29 = .ok (.iload_n 3, 1) := by decide +kernel
theorem dX9_dropOxbow_30 : decode cX9_dropOxbow 30 = .ok (.iload_n 1, 1) := by decide +kernel
theorem dX9_dropOxbow_31 : decode cX9_dropOxbow 31 = .ok (.if_icmp .ne 8, 3) := by decide +kernel
theorem dX9_dropOxbow_34 : decode cX9_dropOxbow 34 = .ok (.bipush (-6), 2) := by decide +kernel
theorem dX9_dropOxbow_36 : decode cX9_dropOxbow 36 = .ok (.goto 15, 3) := by decide +kernel
theorem dX9_dropOxbow_39 : decode cX9_dropOxbow 39 = .ok (.iload_n 3, 1) := by decide +kernel
theorem dX9_dropOxbow_40 : decode cX9_dropOxbow 40 = .ok (.iload_n 1, 1) := by decide +kernel
theorem dX9_dropOxbow_41 : decode cX9_dropOxbow 41 = .ok (.if_icmp .le 9, 3) := by decide +kernel
theorem dX9_dropOxbow_44 : decode cX9_dropOxbow 44 = .ok (.iload_n 3, 1) := by decide +kernel
theorem dX9_dropOxbow_45 : decode cX9_dropOxbow 45 = .ok (.iconst 1, 1) := by decide +kernel
theorem dX9_dropOxbow_46 : decode cX9_dropOxbow 46 = .ok (.isub, 1) := by decide +kernel
theorem dX9_dropOxbow_47 : decode cX9_dropOxbow 47 = .ok (.goto 4, 3) := by decide +kernel
theorem dX9_dropOxbow_50 : decode cX9_dropOxbow 50 = .ok (.iload_n 3, 1) := by decide +kernel
theorem dX9_dropOxbow_51 : decode cX9_dropOxbow 51 = .ok (.iastore, 1) := by decide +kernel
theorem dX9_dropOxbow_52 : decode cX9_dropOxbow 52 = .ok (.iinc 2 1, 3) := by decide +kernel
theorem dX9_dropOxbow_55 : decode cX9_dropOxbow 55 = .ok (.goto (-53), 3) := by decide +kernel
theorem dX9_dropOxbow_58 : decode cX9_dropOxbow 58 = .ok (.aload_n 0, 1) := by decide +kernel
theorem dX9_dropOxbow_59 : decode cX9_dropOxbow 59 = .ok (.getfield 7, 3) := by decide +kernel
theorem dX9_dropOxbow_62 : decode cX9_dropOxbow 62 = .ok (.sipush 1355, 3) := by decide +kernel
theorem dX9_dropOxbow_65 : decode cX9_dropOxbow 65 = .ok (.dup2, 1) := by decide +kernel
theorem dX9_dropOxbow_66 : decode cX9_dropOxbow 66 = .ok (.iaload, 1) := by decide +kernel
theorem dX9_dropOxbow_67 : decode cX9_dropOxbow 67 = .ok (.iconst 1, 1) := by decide +kernel
theorem dX9_dropOxbow_68 : decode cX9_dropOxbow 68 = .ok (.isub, 1) := by decide +kernel
theorem dX9_dropOxbow_69 : decode cX9_dropOxbow 69 = .ok (.iastore, 1) := by decide +kernel
theorem dX9_dropOxbow_70 : decode cX9_dropOxbow 70 = .ok (.sipush 1356, 3) := by decide +kernel
theorem dX9_dropOxbow_73 : decode cX9_dropOxbow 73 = .ok (.iconst 3, 1) := by decide +kernel
theorem dX9_dropOxbow_74 : decode cX9_dropOxbow 74 = .ok (.iload_n 1, 1) := by decide +kernel
theorem dX9_dropOxbow_75 : decode cX9_dropOxbow 75 = .ok (.imul, 1) := by decide +kernel
theorem dX9_dropOxbow_76 : decode cX9_dropOxbow 76 = .ok (.iadd, 1) := by decide +kernel
theorem dX9_dropOxbow_77 : decode cX9_dropOxbow 77 = .ok (.istore_n 2, 1) := by decide +kernel
theorem dX9_dropOxbow_78 : decode cX9_dropOxbow 78 = .ok (.iload_n 2, 1) := by decide +kernel
theorem dX9_dropOxbow_79 : decode cX9_dropOxbow 79 = .ok (.sipush 1356, 3) := by decide +kernel
theorem dX9_dropOxbow_82 : decode cX9_dropOxbow 82 = .ok (.iconst 3, 1) := by decide +kernel
theorem dX9_dropOxbow_83 : decode cX9_dropOxbow 83 = .ok (.aload_n 0, 1) := by decide +kernel
theorem dX9_dropOxbow_84 : decode cX9_dropOxbow 84 = .ok (.getfield 7, 3) := by decide +kernel
theorem dX9_dropOxbow_87 : decode cX9_dropOxbow 87 = .ok (.sipush 1355, 3) := by decide +kernel
theorem dX9_dropOxbow_90 : decode cX9_dropOxbow 90 = .ok (.iaload, 1) := by decide +kernel
theorem dX9_dropOxbow_91 : decode cX9_dropOxbow 91 = .ok (.imul, 1) := by decide +kernel
theorem dX9_dropOxbow_92 : decode cX9_dropOxbow 92 = .ok (.iadd, 1) := by decide +kernel
theorem dX9_dropOxbow_93 : decode cX9_dropOxbow 93 = .ok (.if_icmp .ge 23, 3) := by decide +kernel
theorem dX9_dropOxbow_96 : decode cX9_dropOxbow 96 = .ok (.aload_n 0, 1) := by decide +kernel
theorem dX9_dropOxbow_97 : decode cX9_dropOxbow 97 = .ok (.getfield 7, 3) := by decide +kernel
theorem dX9_dropOxbow_100 : decode cX9_dropOxbow 100 = .ok (.iload_n 2, 1) := by decide +kernel
theorem dX9_dropOxbow_101 : decode cX9_dropOxbow 101 = .ok (.aload_n 0, 1) := by decide +kernel
theorem dX9_dropOxbow_102 : decode cX9_dropOxbow 102 = .ok (.getfield 7, 3) := by decide +kernel
theorem dX9_dropOxbow_105 : decode cX9_dropOxbow 105 = .ok (.iload_n 2, 1) := by decide +kernel
theorem dX9_dropOxbow_106 : decode cX9_dropOxbow 106 = .ok (.iconst 3, 1) := by decide +kernel
theorem dX9_dropOxbow_107 : decode cX9_dropOxbow 107 = .ok (.iadd, 1) := by decide +kernel
theorem dX9_dropOxbow_108 : decode cX9_dropOxbow 108 = .ok (.iaload, 1) := by decide +kernel
theorem dX9_dropOxbow_109 : decode cX9_dropOxbow 109 = .ok (.iastore, 1) := by decide +kernel
theorem dX9_dropOxbow_110 : decode cX9_dropOxbow 110 = .ok (.iinc 2 1, 3) := by decide +kernel
theorem dX9_dropOxbow_113 : decode cX9_dropOxbow 113 = .ok (.goto (-35), 3) := by decide +kernel
theorem dX9_dropOxbow_116 : decode cX9_dropOxbow 116 = .ok (.return_, 1) := by decide +kernel
theorem dX9_grow_0 : decode cX9_grow 0 = .ok (.aload_n 0, 1) := by decide +kernel
theorem dX9_grow_1 : decode cX9_grow 1 = .ok (.getfield 29, 3) := by decide +kernel
theorem dX9_grow_4 : decode cX9_grow 4 = .ok (.iload_n 1, 1) := by decide +kernel
theorem dX9_grow_5 : decode cX9_grow 5 = .ok (.iaload, 1) := by decide +kernel
theorem dX9_grow_6 : decode cX9_grow 6 = .ok (.istore_n 2, 1) := by decide +kernel
theorem dX9_grow_7 : decode cX9_grow 7 = .ok (.aload_n 0, 1) := by decide +kernel
theorem dX9_grow_8 : decode cX9_grow 8 = .ok (.getfield 32, 3) := by decide +kernel
theorem dX9_grow_11 : decode cX9_grow 11 = .ok (.iload_n 1, 1) := by decide +kernel
theorem dX9_grow_12 : decode cX9_grow 12 = .ok (.iaload, 1) := by decide +kernel
theorem dX9_grow_13 : decode cX9_grow 13 = .ok (.istore_n 3, 1) := by decide +kernel
theorem dX9_grow_14 : decode cX9_grow 14 = .ok (.iload_n 2, 1) := by decide +kernel
theorem dX9_grow_15 : decode cX9_grow 15 = .ok (.istore 4, 2) := by decide +kernel
theorem dX9_grow_17 : decode cX9_grow 17 = .ok (.iload 4, 2) := by decide +kernel
theorem dX9_grow_19 : decode cX9_grow 19 = .ok (.iload_n 3, 1) := by decide +kernel
theorem dX9_grow_20 : decode cX9_grow 20 = .ok (.if_icmp .gt 25, 3) := by decide +kernel
theorem dX9_grow_23 : decode cX9_grow 23 = .ok (.aload_n 0, 1) := by decide +kernel
theorem dX9_grow_24 : decode cX9_grow 24 = .ok (.getfield 38, 3) := by decide +kernel
theorem dX9_grow_27 : decode cX9_grow 27 = .ok (.iload 4, 2) := by decide +kernel
theorem dX9_grow_29 : decode cX9_grow 29 = .ok (.iload_n 2, 1) := by decide +kernel
theorem dX9_grow_30 : decode cX9_grow 30 = .ok (.isub, 1) := by decide +kernel
theorem dX9_grow_31 : decode cX9_grow 31 = .ok (.aload_n 0, 1) := by decide +kernel
theorem dX9_grow_32 : decode cX9_grow 32 = .ok (.iload_n 1, 1) := by decide +kernel
theorem dX9_grow_33 : decode cX9_grow 33 = .ok (.iload 4, 2) := by decide +kernel
theorem dX9_grow_35 : decode cX9_grow 35 = .ok (.invokevirtual 76, 3) := by decide +kernel
theorem dX9_grow_38 : decode cX9_grow 38 = .ok (.iastore, 1) := by decide +kernel
theorem dX9_grow_39 : decode cX9_grow 39 = .ok (.iinc 4 1, 3) := by decide +kernel
theorem dX9_grow_42 : decode cX9_grow 42 = .ok (.goto (-25), 3) := by decide +kernel
theorem dX9_grow_45 : decode cX9_grow 45 = .ok (.aload_n 0, 1) := by decide +kernel
theorem dX9_grow_46 : decode cX9_grow 46 = .ok (.getfield 7, 3) := by decide +kernel
theorem dX9_grow_49 : decode cX9_grow 49 = .ok (.iconst 4, 1) := by decide +kernel
theorem dX9_grow_50 : decode cX9_grow 50 = .ok (.iaload, 1) := by decide +kernel
theorem dX9_grow_51 : decode cX9_grow 51 = .ok (.iconst 1, 1) := by decide +kernel
theorem dX9_grow_52 : decode cX9_grow 52 = .ok (.isub, 1) := by decide +kernel
theorem dX9_grow_53 : decode cX9_grow 53 = .ok (.istore 4, 2) := by decide +kernel
theorem dX9_grow_55 : decode cX9_grow 55 = .ok (.iload 4, 2) := by decide +kernel
theorem dX9_grow_57 : decode cX9_grow 57 = .ok (.iload_n 3, 1) := by decide +kernel
theorem dX9_grow_58 : decode cX9_grow 58 = .ok (.if_icmp .lt 29, 3) := by decide +kernel
theorem dX9_grow_61 : decode cX9_grow 61 = .ok (.aload_n 0, 1) := by decide +kernel
theorem dX9_grow_62 : decode cX9_grow 62 = .ok (.getfield 7, 3) := by decide +kernel
theorem dX9_grow_65 : decode cX9_grow 65 = .ok (.iconst 5, 1) := by decide +kernel
theorem dX9_grow_66 : decode cX9_grow 66 = .ok (.iload 4, 2) := by decide +kernel
theorem dX9_grow_68 : decode cX9_grow 68 = .ok (.iadd, 1) := by decide +kernel
theorem dX9_grow_69 : decode cX9_grow 69 = .ok (.iconst 2, 1) := by decide +kernel
theorem dX9_grow_70 : decode cX9_grow 70 = .ok (.iadd, 1) := by decide +kernel
theorem dX9_grow_71 : decode cX9_grow 71 = .ok (.aload_n 0, 1) := by decide +kernel
theorem dX9_grow_72 : decode cX9_grow 72 = .ok (.getfield 7, 3) := by decide +kernel
theorem dX9_grow_75 : decode cX9_grow 75 = .ok (.iconst 5, 1) := by decide +kernel
theorem dX9_grow_76 : decode cX9_grow 76 = .ok (.iload 4, 2) := by decide +kernel
theorem dX9_grow_78 : decode cX9_grow 78 = .ok (.iadd, 1) := by decide +kernel
theorem dX9_grow_79 : decode cX9_grow 79 = .ok (.iaload, 1) := by decide +kernel
theorem dX9_grow_80 : decode cX9_grow 80 = .ok (.iastore, 1) := by decide +kernel
theorem dX9_grow_81 : decode cX9_grow 81 = .ok (.iinc 4 (-1), 3) := by decide +kernel
theorem dX9_grow_84 : decode cX9_grow 84 = .ok (.goto (-29), 3) := by decide +kernel
theorem dX9_grow_87 : decode cX9_grow 87 = .ok (.iload_n 2, 1) := by decide +kernel
theorem dX9_grow_88 : decode cX9_grow 88 = .ok (.istore 4, 2) := by decide +kernel
theorem dX9_grow_90 : decode cX9_grow 90 = .ok (.iload 4, 2) := by decide +kernel
theorem dX9_grow_92 : decode cX9_grow 92 = .ok (.iload_n 3, 1) := by decide +kernel
theorem dX9_grow_93 : decode cX9_grow 93 = .ok (.if_icmp .gt 101, 3) := by decide +kernel
theorem dX9_grow_96 : decode cX9_grow 96 = .ok (.aload_n 0, 1) := by decide +kernel
theorem dX9_grow_97 : decode cX9_grow 97 = .ok (.getfield 38, 3) := by decide +kernel
theorem dX9_grow_100 : decode cX9_grow 100 = .ok (.iload 4, 2) := by decide +kernel
theorem dX9_grow_102 : decode cX9_grow 102 = .ok (.iload_n 2, 1) := by decide +kernel
theorem dX9_grow_103 : decode cX9_grow 103 = .ok (.isub, 1) := by decide +kernel
theorem dX9_grow_104 : decode cX9_grow 104 = .ok (.iaload, 1) := by decide +kernel
theorem dX9_grow_105 : decode cX9_grow 105 = .ok (.istore 5, 2) := by decide +kernel
theorem dX9_grow_107 : decode cX9_grow 107 = .ok (.aload_n 0, 1) := by decide +kernel
theorem dX9_grow_108 : decode cX9_grow 108 = .ok (.getfield 7, 3) := by decide +kernel
theorem dX9_grow_111 : decode cX9_grow 111 = .ok (.iconst 5, 1) := by decide +kernel
theorem dX9_grow_112 : decode cX9_grow 112 = .ok (.iload 4, 2) := by decide +kernel
theorem dX9_grow_114 : decode cX9_grow 114 = .ok (.iadd, 1) := by decide +kernel
theorem dX9_grow_115 : decode cX9_grow 115 = .ok (.iconst 1, 1) := by decide +kernel
theorem dX9_grow_116 : decode cX9_grow 116 = .ok (.iadd, 1) := by decide +kernel
theorem dX9_grow_117 : decode cX9_grow 117 = .ok (.iload 5, 2) := by decide +kernel
theorem dX9_grow_119 : decode cX9_grow 119 = .ok (.iastore, 1) := by decide +kernel
theorem dX9_grow_120 : decode cX9_grow 120 = .ok (.aload_n 0, 1) := by decide +kernel
theorem dX9_grow_121 : decode cX9_grow 121 = .ok (.getfield 7, 3) := by decide +kernel
theorem dX9_grow_124 : decode cX9_grow 124 = .ok (.sipush 155, 3) := by decide +kernel
theorem dX9_grow_127 : decode cX9_grow 127 = .ok (.iload 5, 2) := by decide +kernel
theorem dX9_grow_129 : decode cX9_grow 129 = .ok (.iadd, 1) := by decide +kernel
theorem dX9_grow_130 : decode cX9_grow 130 = .ok (.iconst 0, 1) := by decide +kernel
theorem dX9_grow_131 : decode cX9_grow 131 = .ok (.iastore, 1) := by decide +kernel
theorem dX9_grow_132 : decode cX9_grow 132 = .ok (.aload_n 0, 1) := by decide +kernel
theorem dX9_grow_133 : decode cX9_grow 133 = .ok (.aload_n 0, 1) := by decide +kernel
theorem dX9_grow_134 : decode cX9_grow 134 = .ok (.getfield 86, 3) := by decide +kernel
theorem dX9_grow_137 : decode cX9_grow 137 = .ok (.ifCond .ne 12, 3) := by decide +kernel
theorem dX9_grow_140 : decode cX9_grow 140 = .ok (.iload 5, 2) := by decide +kernel
theorem dX9_grow_142 : decode cX9_grow 142 = .ok (.aload_n 0, 1) := by decide +kernel
theorem dX9_grow_143 : decode cX9_grow 143 = .ok (.getfield 90, 3) := by decide +kernel
theorem dX9_grow_146 : decode cX9_grow 146 = .ok (.if_icmp .ne 7, 3) := by decide +kernel
theorem dX9_grow_149 : decode cX9_grow 149 = .ok (.iconst 1, 1) := by decide +kernel
theorem dX9_grow_150 : decode cX9_grow 150 = .ok (.goto 4, 3) := by decide +kernel
theorem dX9_grow_153 : decode cX9_grow 153 = .ok (.iconst 0, 1) := by decide +kernel
theorem dX9_grow_154 : decode cX9_grow 154 = .ok (.putfield 86, 3) := by decide +kernel
theorem dX9_grow_157 : decode cX9_grow 157 = .ok (.aload_n 0, 1) := by decide +kernel
theorem dX9_grow_158 : decode cX9_grow 158 = .ok (.getfield 7, 3) := by decide +kernel
theorem dX9_grow_161 : decode cX9_grow 161 = .ok (.sipush 1115, 3) := by decide +kernel
theorem dX9_grow_164 : decode cX9_grow 164 = .ok (.iload 5, 2) := by decide +kernel
theorem dX9_grow_166 : decode cX9_grow 166 = .ok (.iadd, 1) := by decide +kernel
theorem dX9_grow_167 : decode cX9_grow 167 = .ok (.iaload, 1) := by decide +kernel
theorem dX9_grow_168 : decode cX9_grow 168 = .ok (.bipush (-6), 2) := by decide +kernel
theorem dX9_grow_170 : decode cX9_grow 170 = .ok (.if_icmp .eq 18, 3) := by decide +kernel
theorem dX9_grow_173 : decode cX9_grow 173 = .ok (.aload_n 0, 1) := by decide +kernel
theorem dX9_grow_174 : decode cX9_grow 174 = .ok (.aload_n 0, 1) := by decide +kernel
theorem dX9_grow_175 : decode cX9_grow 175 = .ok (.getfield 7, 3) := by decide +kernel
theorem dX9_grow_178 : decode cX9_grow 178 = .ok (.sipush 1115, 3) := by decide +kernel
theorem dX9_grow_181 : decode cX9_grow 181 = .ok (.iload 5, 2) := by decide +kernel
theorem dX9_grow_183 : decode cX9_grow 183 = .ok (.iadd, 1) := by decide +kernel
theorem dX9_grow_184 : decode cX9_grow 184 = .ok (.iaload, 1) := by decide +kernel
theorem dX9_grow_185 : decode cX9_grow 185 = .ok (.invokevirtual 93, 3) := by decide +kernel
theorem dX9_grow_188 : decode cX9_grow 188 = .ok (.iinc 4 1, 3) := by decide +kernel
theorem dX9_grow_191 : decode cX9_grow 191 = .ok (.goto (-101), 3) := by decide +kernel
theorem dX9_grow_194 : decode cX9_grow 194 = .ok (.aload_n 0, 1) := by decide +kernel
theorem dX9_grow_195 : decode cX9_grow 195 = .ok (.getfield 7, 3) := by decide +kernel
theorem dX9_grow_198 : decode cX9_grow 198 = .ok (.iconst 4, 1) := by decide +kernel
theorem dX9_grow_199 : decode cX9_grow 199 = .ok (.dup2, 1) := by decide +kernel
theorem dX9_grow_200 : decode cX9_grow 200 = .ok (.iaload, 1) := by decide +kernel
theorem dX9_grow_201 : decode cX9_grow 201 = .ok (.iconst 2, 1) := by decide +kernel
theorem dX9_grow_202 : decode cX9_grow 202 = .ok (.iadd, 1) := by decide +kernel
theorem dX9_grow_203 : decode cX9_grow 203 = .ok (.iastore, 1) := by decide +kernel
theorem dX9_grow_204 : decode cX9_grow 204 = .ok (.aload_n 0, 1) := by decide +kernel
theorem dX9_grow_205 : decode cX9_grow 205 = .ok (.getfield 7, 3) := by decide +kernel
theorem dX9_grow_208 : decode cX9_grow 208 = .ok (.sipush 1406, 3) := by decide +kernel
theorem dX9_grow_211 : decode cX9_grow 211 = .ok (.dup2, 1) := by decide +kernel
theorem dX9_grow_212 : decode cX9_grow 212 = .ok (.iaload, 1) := by decide +kernel
theorem dX9_grow_213 : decode cX9_grow 213 = .ok (.iconst 1, 1) := by decide +kernel
theorem dX9_grow_214 : decode cX9_grow 214 = .ok (.iadd, 1) := by decide +kernel
theorem dX9_grow_215 : decode cX9_grow 215 = .ok (.iastore, 1) := by decide +kernel
theorem dX9_grow_216 : decode cX9_grow 216 = .ok (.iload_n 3, 1) := by decide +kernel
theorem dX9_grow_217 : decode cX9_grow 217 = .ok (.iconst 2, 1) := by decide +kernel
theorem dX9_grow_218 : decode cX9_grow 218 = .ok (.iadd, 1) := by decide +kernel
theorem dX9_grow_219 : decode cX9_grow 219 = .ok (.ireturn, 1) := by decide +kernel
theorem dX9_pair_0 : decode cX9_pair 0 = .ok (.iload_n 0, 1) := by decide +kernel
theorem dX9_pair_1 : decode cX9_pair 1 = .ok (.iload_n 1, 1) := by decide +kernel
theorem dX9_pair_2 : decode cX9_pair 2 = .ok (.if_icmp .ge 7, 3) := by decide +kernel
theorem dX9_pair_5 : decode cX9_pair 5 = .ok (.iload_n 0, 1) := by decide +kernel
theorem dX9_pair_6 : decode cX9_pair 6 = .ok (.goto 4, 3) := by decide +kernel
theorem dX9_pair_9 : decode cX9_pair 9 = .ok (.iload_n 1, 1) := by decide +kernel
theorem dX9_pair_10 : decode cX9_pair 10 = .ok (.istore_n 2, 1) := by decide +kernel
theorem dX9_pair_11 : decode cX9_pair 11 = .ok (.iload_n 0, 1) := by decide +kernel
theorem dX9_pair_12 : decode cX9_pair 12 = .ok (.iload_n 1, 1) := by decide +kernel
theorem dX9_pair_13 : decode cX9_pair 13 = .ok (.if_icmp .ge 9, 3) := by decide +kernel
theorem dX9_pair_16 : decode cX9_pair 16 = .ok (.iload_n 1, 1) := by decide +kernel
theorem dX9_pair_17 : decode cX9_pair 17 = .ok (.iload_n 0, 1) := by decide +kernel
theorem dX9_pair_18 : decode cX9_pair 18 = .ok (.isub, 1) := by decide +kernel
theorem dX9_pair_19 : decode cX9_pair 19 = .ok (.goto 6, 3) := by decide +kernel
theorem dX9_pair_22 : decode cX9_pair 22 = .ok (.iload_n 0, 1) := by decide +kernel
theorem dX9_pair_23 : decode cX9_pair 23 = .ok (.iload_n 1, 1) := by decide +kernel
theorem dX9_pair_24 : decode cX9_pair 24 = .ok (.isub, 1) := by decide +kernel
theorem dX9_pair_25 : decode cX9_pair 25 = .ok (.istore_n 3, 1) := by decide +kernel
theorem dX9_pair_26 : decode cX9_pair 26 = .ok (.sipush 635, 3) := by decide +kernel
theorem dX9_pair_29 : decode cX9_pair 29 = .ok (.iconst 2, 1) := by decide +kernel
theorem dX9_pair_30 : decode cX9_pair 30 = .ok (.iload_n 2, 1) := by decide +kernel
theorem dX9_pair_31 : decode cX9_pair 31 = .ok (.imul, 1) := by decide +kernel
theorem dX9_pair_32 : decode cX9_pair 32 = .ok (.iadd, 1) := by decide +kernel
theorem dX9_pair_33 : decode cX9_pair 33 = .ok (.iload_n 3, 1) := by decide +kernel
theorem dX9_pair_34 : decode cX9_pair 34 = .ok (.iconst 1, 1) := by decide +kernel
theorem dX9_pair_35 : decode cX9_pair 35 = .ok (.if_icmp .ne 7, 3) := by decide +kernel
theorem dX9_pair_38 : decode cX9_pair 38 = .ok (.iconst 0, 1) := by decide +kernel
theorem dX9_pair_39 : decode cX9_pair 39 = .ok (.goto 4, 3) := by decide +kernel
theorem dX9_pair_42 : decode cX9_pair 42 = .ok (.iconst 1, 1) := by decide +kernel
theorem dX9_pair_43 : decode cX9_pair 43 = .ok (.iadd, 1) := by decide +kernel
theorem dX9_pair_44 : decode cX9_pair 44 = .ok (.ireturn, 1) := by decide +kernel
theorem dX9_areNeighbours_0 : decode cX9_areNeighbours 0 = .ok (.iload_n 0, 1) := by decide +kernel
theorem dX9_areNeighbours_1 : decode cX9_areNeighbours 1 = .ok (.bipush 20, 2) := by decide +kernel
theorem dX9_areNeighbours_3 : decode cX9_areNeighbours 3 = .ok (.irem, 1) := by decide +kernel
theorem dX9_areNeighbours_4 : decode cX9_areNeighbours 4 = .ok (.iload_n 1, 1) := by decide +kernel
theorem dX9_areNeighbours_5 : decode cX9_areNeighbours 5 = .ok (.bipush 20, 2) := by decide +kernel
theorem dX9_areNeighbours_7 : decode cX9_areNeighbours 7 = .ok (.irem, 1) := by decide +kernel
theorem dX9_areNeighbours_8 : decode cX9_areNeighbours 8 = .ok (.isub, 1) := by decide +kernel
theorem dX9_areNeighbours_9 : decode cX9_areNeighbours 9 = .ok (.istore_n 2, 1) := by decide +kernel
theorem dX9_areNeighbours_10 : decode cX9_areNeighbours 10 = .ok (.iload_n 0, 1) := by decide +kernel
theorem dX9_areNeighbours_11 : decode cX9_areNeighbours 11 = .ok (.bipush 20, 2) := by decide +kernel
theorem dX9_areNeighbours_13 : decode cX9_areNeighbours 13 = .ok (.idiv, 1) := by decide +kernel
theorem dX9_areNeighbours_14 : decode cX9_areNeighbours 14 = .ok (.iload_n 1, 1) := by decide +kernel
theorem dX9_areNeighbours_15 : decode cX9_areNeighbours 15 = .ok (.bipush 20, 2) := by decide +kernel
theorem dX9_areNeighbours_17 : decode cX9_areNeighbours 17 = .ok (.idiv, 1) := by decide +kernel
theorem dX9_areNeighbours_18 : decode cX9_areNeighbours 18 = .ok (.isub, 1) := by decide +kernel
theorem dX9_areNeighbours_19 : decode cX9_areNeighbours 19 = .ok (.istore_n 3, 1) := by decide +kernel
theorem dX9_areNeighbours_20 : decode cX9_areNeighbours 20 = .ok (.iload_n 2, 1) := by decide +kernel
theorem dX9_areNeighbours_21 : decode cX9_areNeighbours 21 = .ok (.iload_n 2, 1) := by decide +kernel
theorem dX9_areNeighbours_22 : decode cX9_areNeighbours 22 = .ok (.imul, 1) := by decide +kernel
theorem dX9_areNeighbours_23 : decode cX9_areNeighbours 23 = .ok (.iload_n 3, 1) := by decide +kernel
theorem dX9_areNeighbours_24 : decode cX9_areNeighbours 24 = .ok (.iload_n 3, 1) := by decide +kernel
theorem dX9_areNeighbours_25 : decode cX9_areNeighbours 25 = .ok (.imul, 1) := by decide +kernel
theorem dX9_areNeighbours_26 : decode cX9_areNeighbours 26 = .ok (.iadd, 1) := by decide +kernel
theorem dX9_areNeighbours_27 : decode cX9_areNeighbours 27 = .ok (.iconst 1, 1) := by decide +kernel
theorem dX9_areNeighbours_28 : decode cX9_areNeighbours 28 = .ok (.if_icmp .ne 7, 3) := by decide +kernel
theorem dX9_areNeighbours_31 : decode cX9_areNeighbours 31 = .ok (.iconst 1, 1) := by decide +kernel
theorem dX9_areNeighbours_32 : decode cX9_areNeighbours 32 = .ok (.goto 4, 3) := by decide +kernel
theorem dX9_areNeighbours_35 : decode cX9_areNeighbours 35 = .ok (.iconst 0, 1) := by decide +kernel
theorem dX9_areNeighbours_36 : decode cX9_areNeighbours 36 = .ok (.ireturn, 1) := by decide +kernel
theorem dX9_findNeck_0 : decode cX9_findNeck 0 = .ok (.iconst 0, 1) := by decide +kernel
theorem dX9_findNeck_1 : decode cX9_findNeck 1 = .ok (.istore_n 3, 1) := by decide +kernel
theorem dX9_findNeck_2 : decode cX9_findNeck 2 = .ok (.iconst 0, 1) := by decide +kernel
theorem dX9_findNeck_3 : decode cX9_findNeck 3 = .ok (.istore 4, 2) := by decide +kernel
theorem dX9_findNeck_5 : decode cX9_findNeck 5 = .ok (.aload_n 0, 1) := by decide +kernel
theorem dX9_findNeck_6 : decode cX9_findNeck 6 = .ok (.bipush (-6), 2) := by decide +kernel
theorem dX9_findNeck_8 : decode cX9_findNeck 8 = .ok (.putfield 97, 3) := by decide +kernel
theorem dX9_findNeck_11 : decode cX9_findNeck 11 = .ok (.iconst 0, 1) := by decide +kernel
theorem dX9_findNeck_12 : decode cX9_findNeck 12 = .ok (.istore 5, 2) := by decide +kernel
theorem dX9_findNeck_14 : decode cX9_findNeck 14 = .ok (.iload 5, 2) := by decide +kernel
theorem dX9_findNeck_16 : decode cX9_findNeck 16 = .ok (.aload_n 0, 1) := by decide +kernel
theorem dX9_findNeck_17 : decode cX9_findNeck 17 = .ok (.getfield 7, 3) := by decide +kernel
theorem dX9_findNeck_20 : decode cX9_findNeck 20 = .ok (.iconst 4, 1) := by decide +kernel
theorem dX9_findNeck_21 : decode cX9_findNeck 21 = .ok (.iaload, 1) := by decide +kernel
theorem dX9_findNeck_22 : decode cX9_findNeck 22 = .ok (.if_icmp .ge 176, 3) := by decide +kernel
theorem dX9_findNeck_25 : decode cX9_findNeck 25 = .ok (.iload 5, 2) := by decide +kernel
theorem dX9_findNeck_27 : decode cX9_findNeck 27 = .ok (.iconst 3, 1) := by decide +kernel
theorem dX9_findNeck_28 : decode cX9_findNeck 28 = .ok (.iadd, 1) := by decide +kernel
theorem dX9_findNeck_29 : decode cX9_findNeck 29 = .ok (.istore 6, 2) := by decide +kernel
theorem dX9_findNeck_31 : decode cX9_findNeck 31 = .ok (.iload 6, 2) := by decide +kernel
theorem dX9_findNeck_33 : decode cX9_findNeck 33 = .ok (.aload_n 0, 1) := by decide +kernel
theorem dX9_findNeck_34 : decode cX9_findNeck 34 = .ok (.getfield 7, 3) := by decide +kernel
theorem dX9_findNeck_37 : decode cX9_findNeck 37 = .ok (.iconst 4, 1) := by decide +kernel
theorem dX9_findNeck_38 : decode cX9_findNeck 38 = .ok (.iaload, 1) := by decide +kernel
theorem dX9_findNeck_39 : decode cX9_findNeck 39 = .ok (.if_icmp .ge 153, 3) := by decide +kernel
theorem dX9_findNeck_42 : decode cX9_findNeck 42 = .ok (.aload_n 0, 1) := by decide +kernel
theorem dX9_findNeck_43 : decode cX9_findNeck 43 = .ok (.getfield 7, 3) := by decide +kernel
theorem dX9_findNeck_46 : decode cX9_findNeck 46 = .ok (.iconst 5, 1) := by decide +kernel
theorem dX9_findNeck_47 : decode cX9_findNeck 47 = .ok (.iload 5, 2) := by decide +kernel
theorem dX9_findNeck_49 : decode cX9_findNeck 49 = .ok (.iadd, 1) := by decide +kernel
theorem dX9_findNeck_50 : decode cX9_findNeck 50 = .ok (.iaload, 1) := by decide +kernel
theorem dX9_findNeck_51 : decode cX9_findNeck 51 = .ok (.aload_n 0, 1) := by decide +kernel
theorem dX9_findNeck_52 : decode cX9_findNeck 52 = .ok (.getfield 7, 3) := by decide +kernel
theorem dX9_findNeck_55 : decode cX9_findNeck 55 = .ok (.iconst 5, 1) := by decide +kernel
theorem dX9_findNeck_56 : decode cX9_findNeck 56 = .ok (.iload 6, 2) := by decide +kernel
theorem dX9_findNeck_58 : decode cX9_findNeck 58 = .ok (.iadd, 1) := by decide +kernel
theorem dX9_findNeck_59 : decode cX9_findNeck 59 = .ok (.iaload, 1) := by decide +kernel
theorem dX9_findNeck_60 : decode cX9_findNeck 60 = .ok (.invokestatic 100, 3) := by decide +kernel
theorem dX9_findNeck_63 : decode cX9_findNeck 63 = .ok (.ifCond .eq 123, 3) := by decide +kernel
theorem dX9_findNeck_66 : decode cX9_findNeck 66 = .ok (.iload_n 1, 1) := by decide +kernel
theorem dX9_findNeck_67 : decode cX9_findNeck 67 = .ok (.ifCond .ge 51, 3) := by decide +kernel
theorem dX9_findNeck_70 : decode cX9_findNeck 70 = .ok (.iload 6, 2) := by decide +kernel
theorem dX9_findNeck_72 : decode cX9_findNeck 72 = .ok (.iload 5, 2) := by decide +kernel
theorem dX9_findNeck_74 : decode cX9_findNeck 74 = .ok (.isub, 1) := by decide +kernel
theorem dX9_findNeck_75 : decode cX9_findNeck 75 = .ok (.iload 4, 2) := by decide +kernel
theorem dX9_findNeck_77 : decode cX9_findNeck 77 = .ok (.if_icmp .le 37, 3) := by decide +kernel
theorem dX9_findNeck_80 : decode cX9_findNeck 80 = .ok (.aload_n 0, 1) := by decide +kernel
theorem dX9_findNeck_81 : decode cX9_findNeck 81 = .ok (.getfield 7, 3) := by decide +kernel
theorem dX9_findNeck_84 : decode cX9_findNeck 84 = .ok (.aload_n 0, 1) := by decide +kernel
theorem dX9_findNeck_85 : decode cX9_findNeck 85 = .ok (.getfield 7, 3) := by decide +kernel
theorem dX9_findNeck_88 : decode cX9_findNeck 88 = .ok (.iconst 5, 1) := by decide +kernel
theorem dX9_findNeck_89 : decode cX9_findNeck 89 = .ok (.iload 5, 2) := by decide +kernel
theorem dX9_findNeck_91 : decode cX9_findNeck 91 = .ok (.iadd, 1) := by decide +kernel
theorem dX9_findNeck_92 : decode cX9_findNeck 92 = .ok (.iaload, 1) := by decide +kernel
theorem dX9_findNeck_93 : decode cX9_findNeck 93 = .ok (.aload_n 0, 1) := by decide +kernel
theorem dX9_findNeck_94 : decode cX9_findNeck 94 = .ok (.getfield 7, 3) := by decide +kernel
theorem dX9_findNeck_97 : decode cX9_findNeck 97 = .ok (.iconst 5, 1) := by decide +kernel
theorem dX9_findNeck_98 : decode cX9_findNeck 98 = .ok (.iload 6, 2) := by decide +kernel
theorem dX9_findNeck_100 : decode cX9_findNeck 100 = .ok (.iadd, 1) := by decide +kernel
theorem dX9_findNeck_101 : decode cX9_findNeck 101 = .ok (.iaload, 1) := by decide +kernel
theorem dX9_findNeck_102 : decode cX9_findNeck 102 = .ok (.invokestatic 103, 3) := by decide +kernel
theorem dX9_findNeck_105 : decode cX9_findNeck 105 = .ok (.iaload, 1) := by decide +kernel
theorem dX9_findNeck_106 : decode cX9_findNeck 106 = .ok (.iload_n 2, 1) := by decide +kernel
theorem dX9_findNeck_107 : decode cX9_findNeck 107 = .ok (.if_icmp .lt 7, 3) := by decide +kernel
theorem dX9_findNeck_110 : decode cX9_findNeck 110 = .ok (.iconst 1, 1) := by decide +kernel
theorem dX9_findNeck_111 : decode cX9_findNeck 111 = .ok (.goto 17, 3) := by decide +kernel
theorem dX9_findNeck_114 : decode cX9_findNeck 114 = .ok (.iconst 0, 1) := by decide +kernel
theorem dX9_findNeck_115 : decode cX9_findNeck 115 = .ok (.goto 13, 3) := by decide +kernel
theorem dX9_findNeck_118 : decode cX9_findNeck 118 = .ok (.iload_n 3, 1) := by decide +kernel
theorem dX9_findNeck_119 : decode cX9_findNeck 119 = .ok (.iload_n 1, 1) := by decide +kernel
theorem dX9_findNeck_120 : decode cX9_findNeck 120 = .ok (.if_icmp .ne 7, 3) := by decide +kernel
theorem dX9_findNeck_123 : decode cX9_findNeck 123 = .ok (.iconst 1, 1) := by decide +kernel
theorem dX9_findNeck_124 : decode cX9_findNeck 124 = .ok (.goto 4, 3) := by decide +kernel
theorem dX9_findNeck_127 : decode cX9_findNeck 127 = .ok (.iconst 0, 1) := by decide +kernel
theorem dX9_findNeck_128 : decode cX9_findNeck 128 = .ok (.istore 7, 2) := by decide +kernel
theorem dX9_findNeck_130 : decode cX9_findNeck 130 = .ok (.iload 7, 2) := by decide +kernel
theorem dX9_findNeck_132 : decode cX9_findNeck 132 = .ok (.ifCond .eq 11, 3) := by decide +kernel
theorem dX9_findNeck_135 : decode cX9_findNeck 135 = .ok (.iload 6, 2) := by decide +kernel
theorem dX9_findNeck_137 : decode cX9_findNeck 137 = .ok (.iload 5, 2) := by decide +kernel
theorem dX9_findNeck_139 : decode cX9_findNeck 139 = .ok (.isub, 1) := by decide +kernel
theorem dX9_findNeck_140 : decode cX9_findNeck 140 = .ok (.goto 5, 3) := by decide +kernel
theorem dX9_findNeck_143 : decode cX9_findNeck 143 = .ok (.iload 4, 2) := by decide +kernel
theorem dX9_findNeck_145 : decode cX9_findNeck 145 = .ok (.istore 4, 2) := by decide +kernel
theorem dX9_findNeck_147 : decode cX9_findNeck 147 = .ok (.aload_n 0, 1) := by decide +kernel
theorem dX9_findNeck_148 : decode cX9_findNeck 148 = .ok (.iload 7, 2) := by decide +kernel
theorem dX9_findNeck_150 : decode cX9_findNeck 150 = .ok (.ifCond .eq 8, 3) := by decide +kernel
theorem dX9_findNeck_153 : decode cX9_findNeck 153 = .ok (.iload 5, 2) := by decide +kernel
theorem dX9_findNeck_155 : decode cX9_findNeck 155 = .ok (.goto 7, 3) := by decide +kernel
theorem dX9_findNeck_158 : decode cX9_findNeck 158 = .ok (.aload_n 0, 1) := by decide +kernel
theorem dX9_findNeck_159 : decode cX9_findNeck 159 = .ok (.getfield 97, 3) := by decide +kernel
theorem dX9_findNeck_162 : decode cX9_findNeck 162 = .ok (.putfield 97, 3) := by decide +kernel
theorem dX9_findNeck_165 : decode cX9_findNeck 165 = .ok (.aload_n 0, 1) := by decide +kernel
theorem dX9_findNeck_166 : decode cX9_findNeck 166 = .ok (.iload 7, 2) := by decide +kernel
theorem dX9_findNeck_168 : decode cX9_findNeck 168 = .ok (.ifCond .eq 8, 3) := by decide +kernel
theorem dX9_findNeck_171 : decode cX9_findNeck 171 = .ok (.iload 6, 2) := by decide +kernel
theorem dX9_findNeck_173 : decode cX9_findNeck 173 = .ok (.goto 7, 3) := by decide +kernel
theorem dX9_findNeck_176 : decode cX9_findNeck 176 = .ok (.aload_n 0, 1) := by decide +kernel
theorem dX9_findNeck_177 : decode cX9_findNeck 177 = .ok (.getfield 106, 3) := by decide +kernel
theorem dX9_findNeck_180 : decode cX9_findNeck 180 = .ok (.putfield 106, 3) := by decide +kernel
theorem dX9_findNeck_183 : decode cX9_findNeck 183 = .ok (.iinc 3 1, 3) := by decide +kernel
theorem dX9_findNeck_186 : decode cX9_findNeck 186 = .ok (.iinc 6 1, 3) := by decide +kernel
theorem dX9_findNeck_189 : decode cX9_findNeck 189 = .ok (.goto (-158), 3) := by decide +kernel
theorem dX9_findNeck_192 : decode cX9_findNeck 192 = .ok (.iinc 5 1, 3) := by decide +kernel
theorem dX9_findNeck_195 : decode cX9_findNeck 195 = .ok (.goto (-181), 3) := by decide +kernel
theorem dX9_findNeck_198 : decode cX9_findNeck 198 = .ok (.aload_n 0, 1) := by decide +kernel
theorem dX9_findNeck_199 : decode cX9_findNeck 199 = .ok (.iload_n 3, 1) := by decide +kernel
theorem dX9_findNeck_200 : decode cX9_findNeck 200 = .ok (.putfield 109, 3) := by decide +kernel
theorem dX9_findNeck_203 : decode cX9_findNeck 203 = .ok (.aload_n 0, 1) := by decide +kernel
theorem dX9_findNeck_204 : decode cX9_findNeck 204 = .ok (.getfield 97, 3) := by decide +kernel
theorem dX9_findNeck_207 : decode cX9_findNeck 207 = .ok (.bipush (-6), 2) := by decide +kernel
theorem dX9_findNeck_209 : decode cX9_findNeck 209 = .ok (.if_icmp .eq 7, 3) := by decide +kernel
theorem dX9_findNeck_212 : decode cX9_findNeck 212 = .ok (.iconst 1, 1) := by decide +kernel
theorem dX9_findNeck_213 : decode cX9_findNeck 213 = .ok (.goto 4, 3) := by decide +kernel
theorem dX9_findNeck_216 : decode cX9_findNeck 216 = .ok (.iconst 0, 1) := by decide +kernel
theorem dX9_findNeck_217 : decode cX9_findNeck 217 = .ok (.ireturn, 1) := by decide +kernel
theorem dX9_cutNeck_0 : decode cX9_cutNeck 0 = .ok (.aload_n 0, 1) := by decide +kernel
theorem dX9_cutNeck_1 : decode cX9_cutNeck 1 = .ok (.getfield 7, 3) := by decide +kernel
theorem dX9_cutNeck_4 : decode cX9_cutNeck 4 = .ok (.sipush 1355, 3) := by decide +kernel
theorem dX9_cutNeck_7 : decode cX9_cutNeck 7 = .ok (.iaload, 1) := by decide +kernel
theorem dX9_cutNeck_8 : decode cX9_cutNeck 8 = .ok (.bipush 12, 2) := by decide +kernel
theorem dX9_cutNeck_10 : decode cX9_cutNeck 10 = .ok (.if_icmp .ne 8, 3) := by decide +kernel
theorem dX9_cutNeck_13 : decode cX9_cutNeck 13 = .ok (.aload_n 0, 1) := by decide +kernel
theorem dX9_cutNeck_14 : decode cX9_cutNeck 14 = .ok (.iconst 0, 1) := by decide +kernel
theorem dX9_cutNeck_15 : decode cX9_cutNeck 15 = .ok (.invokevirtual 93, 3) := by decide +kernel
theorem dX9_cutNeck_18 : decode cX9_cutNeck 18 = .ok (.aload_n 0, 1) := by decide +kernel
theorem dX9_cutNeck_19 : decode cX9_cutNeck 19 = .ok (.getfield 7, 3) := by decide +kernel
theorem dX9_cutNeck_22 : decode cX9_cutNeck 22 = .ok (.sipush 1355, 3) := by decide +kernel
theorem dX9_cutNeck_25 : decode cX9_cutNeck 25 = .ok (.iaload, 1) := by decide +kernel
theorem dX9_cutNeck_26 : decode cX9_cutNeck 26 = .ok (.istore_n 1, 1) := by decide +kernel
theorem dX9_cutNeck_27 : decode cX9_cutNeck 27 = .ok (.aload_n 0, 1) := by decide +kernel
theorem dX9_cutNeck_28 : decode cX9_cutNeck 28 = .ok (.getfield 106, 3) := by decide +kernel
theorem dX9_cutNeck_31 : decode cX9_cutNeck 31 = .ok (.aload_n 0, 1) := by decide +kernel
theorem dX9_cutNeck_32 : decode cX9_cutNeck 32 = .ok (.getfield 97, 3) := by decide +kernel
theorem dX9_cutNeck_35 : decode cX9_cutNeck 35 = .ok (.isub, 1) := by decide +kernel
theorem dX9_cutNeck_36 : decode cX9_cutNeck 36 = .ok (.iconst 1, 1) := by decide +kernel
theorem dX9_cutNeck_37 : decode cX9_cutNeck 37 = .ok (.isub, 1) := by decide +kernel
theorem dX9_cutNeck_38 : decode cX9_cutNeck 38 = .ok (.istore_n 2, 1) := by decide +kernel
theorem dX9_cutNeck_39 : decode cX9_cutNeck 39 = .ok (.aload_n 0, 1) := by decide +kernel
theorem dX9_cutNeck_40 : decode cX9_cutNeck 40 = .ok (.getfield 7, 3) := by decide +kernel
theorem dX9_cutNeck_43 : decode cX9_cutNeck 43 = .ok (.sipush 1356, 3) := by decide +kernel
theorem dX9_cutNeck_46 : decode cX9_cutNeck 46 = .ok (.iconst 3, 1) := by decide +kernel
theorem dX9_cutNeck_47 : decode cX9_cutNeck 47 = .ok (.iload_n 1, 1) := by decide +kernel
theorem dX9_cutNeck_48 : decode cX9_cutNeck 48 = .ok (.imul, 1) := by decide +kernel
theorem dX9_cutNeck_49 : decode cX9_cutNeck 49 = .ok (.iadd, 1) := by decide +kernel
theorem dX9_cutNeck_50 : decode cX9_cutNeck 50 = .ok (.iload_n 2, 1) := by decide +kernel
theorem dX9_cutNeck_51 : decode cX9_cutNeck 51 = .ok (.iastore, 1) := by decide +kernel
theorem dX9_cutNeck_52 : decode cX9_cutNeck 52 = .ok (.aload_n 0, 1) := by decide +kernel
theorem dX9_cutNeck_53 : decode cX9_cutNeck 53 = .ok (.getfield 7, 3) := by decide +kernel
theorem dX9_cutNeck_56 : decode cX9_cutNeck 56 = .ok (.sipush 1356, 3) := by decide +kernel
theorem dX9_cutNeck_59 : decode cX9_cutNeck 59 = .ok (.iconst 3, 1) := by decide +kernel
theorem dX9_cutNeck_60 : decode cX9_cutNeck 60 = .ok (.iload_n 1, 1) := by decide +kernel
theorem dX9_cutNeck_61 : decode cX9_cutNeck 61 = .ok (.imul, 1) := by decide +kernel
theorem dX9_cutNeck_62 : decode cX9_cutNeck 62 = .ok (.iadd, 1) := by decide +kernel
theorem dX9_cutNeck_63 : decode cX9_cutNeck 63 = .ok (.iconst 1, 1) := by decide +kernel
theorem dX9_cutNeck_64 : decode cX9_cutNeck 64 = .ok (.iadd, 1) := by decide +kernel
theorem dX9_cutNeck_65 : decode cX9_cutNeck 65 = .ok (.iconst 0, 1) := by decide +kernel
theorem dX9_cutNeck_66 : decode cX9_cutNeck 66 = .ok (.iastore, 1) := by decide +kernel
theorem dX9_cutNeck_67 : decode cX9_cutNeck 67 = .ok (.aload_n 0, 1) := by decide +kernel
theorem dX9_cutNeck_68 : decode cX9_cutNeck 68 = .ok (.getfield 7, 3) := by decide +kernel
theorem dX9_cutNeck_71 : decode cX9_cutNeck 71 = .ok (.sipush 1356, 3) := by decide +kernel
theorem dX9_cutNeck_74 : decode cX9_cutNeck 74 = .ok (.iconst 3, 1) := by decide +kernel
theorem dX9_cutNeck_75 : decode cX9_cutNeck 75 = .ok (.iload_n 1, 1) := by decide +kernel
theorem dX9_cutNeck_76 : decode cX9_cutNeck 76 = .ok (.imul, 1) := by decide +kernel
theorem dX9_cutNeck_77 : decode cX9_cutNeck 77 = .ok (.iadd, 1) := by decide +kernel
theorem dX9_cutNeck_78 : decode cX9_cutNeck 78 = .ok (.iconst 2, 1) := by decide +kernel
theorem dX9_cutNeck_79 : decode cX9_cutNeck 79 = .ok (.iadd, 1) := by decide +kernel
theorem dX9_cutNeck_80 : decode cX9_cutNeck 80 = .ok (.aload_n 0, 1) := by decide +kernel
theorem dX9_cutNeck_81 : decode cX9_cutNeck 81 = .ok (.getfield 7, 3) := by decide +kernel
theorem dX9_cutNeck_84 : decode cX9_cutNeck 84 = .ok (.iconst 5, 1) := by decide +kernel
theorem dX9_cutNeck_85 : decode cX9_cutNeck 85 = .ok (.aload_n 0, 1) := by decide +kernel
theorem dX9_cutNeck_86 : decode cX9_cutNeck 86 = .ok (.getfield 97, 3) := by decide +kernel
theorem dX9_cutNeck_89 : decode cX9_cutNeck 89 = .ok (.iadd, 1) := by decide +kernel
theorem dX9_cutNeck_90 : decode cX9_cutNeck 90 = .ok (.iconst 1, 1) := by decide +kernel
theorem dX9_cutNeck_91 : decode cX9_cutNeck 91 = .ok (.iadd, 1) := by decide +kernel
theorem dX9_cutNeck_92 : decode cX9_cutNeck 92 = .ok (.iaload, 1) := by decide +kernel
theorem dX9_cutNeck_93 : decode cX9_cutNeck 93 = .ok (.iastore, 1) := by decide +kernel
theorem dX9_cutNeck_94 : decode cX9_cutNeck 94 = .ok (.aload_n 0, 1) := by decide +kernel
theorem dX9_cutNeck_95 : decode cX9_cutNeck 95 = .ok (.getfield 97, 3) := by decide +kernel
theorem dX9_cutNeck_98 : decode cX9_cutNeck 98 = .ok (.iconst 1, 1) := by decide +kernel
theorem dX9_cutNeck_99 : decode cX9_cutNeck 99 = .ok (.iadd, 1) := by decide +kernel
theorem dX9_cutNeck_100 : decode cX9_cutNeck 100 = .ok (.istore_n 3, 1) := by decide +kernel
theorem dX9_cutNeck_101 : decode cX9_cutNeck 101 = .ok (.iload_n 3, 1) := by decide +kernel
theorem dX9_cutNeck_102 : decode cX9_cutNeck 102 = .ok (.aload_n 0, 1) := by decide +kernel
theorem dX9_cutNeck_103 : decode cX9_cutNeck 103 = .ok (.getfield 106, 3) := by decide +kernel
theorem dX9_cutNeck_106 : decode cX9_cutNeck 106 = .ok (.if_icmp .ge 27, 3) := by decide +kernel
theorem dX9_cutNeck_109 : decode cX9_cutNeck 109 = .ok (.aload_n 0, 1) := by decide +kernel
theorem dX9_cutNeck_110 : decode cX9_cutNeck 110 = .ok (.getfield 7, 3) := by decide +kernel
theorem dX9_cutNeck_113 : decode cX9_cutNeck 113 = .ok (.sipush 1115, 3) := by decide +kernel
theorem dX9_cutNeck_116 : decode cX9_cutNeck 116 = .ok (.aload_n 0, 1) := by decide +kernel
theorem dX9_cutNeck_117 : decode cX9_cutNeck 117 = .ok (.getfield 7, 3) := by decide +kernel
theorem dX9_cutNeck_120 : decode cX9_cutNeck 120 = .ok (.iconst 5, 1) := by decide +kernel
theorem dX9_cutNeck_121 : decode cX9_cutNeck 121 = .ok (.iload_n 3, 1) := by decide +kernel
theorem dX9_cutNeck_122 : decode cX9_cutNeck 122 = .ok (.iadd, 1) := by decide +kernel
theorem dX9_cutNeck_123 : decode cX9_cutNeck 123 = .ok (.iaload, 1) := by decide +kernel
theorem dX9_cutNeck_124 : decode cX9_cutNeck 124 = .ok (.iadd, 1) := by decide +kernel
theorem dX9_cutNeck_125 : decode cX9_cutNeck 125 = .ok (.iload_n 1, 1) := by decide +kernel
theorem dX9_cutNeck_126 : decode cX9_cutNeck 126 = .ok (.iastore, 1) := by decide +kernel
theorem dX9_cutNeck_127 : decode cX9_cutNeck 127 = .ok (.iinc 3 1, 3) := by decide +kernel
theorem dX9_cutNeck_130 : decode cX9_cutNeck 130 = .ok (.goto (-29), 3) := by decide +kernel
theorem dX9_cutNeck_133 : decode cX9_cutNeck 133 = .ok (.aload_n 0, 1) := by decide +kernel
theorem dX9_cutNeck_134 : decode cX9_cutNeck 134 = .ok (.getfield 7, 3) := by decide +kernel
theorem dX9_cutNeck_137 : decode cX9_cutNeck 137 = .ok (.sipush 1355, 3) := by decide +kernel
theorem dX9_cutNeck_140 : decode cX9_cutNeck 140 = .ok (.dup2, 1) := by decide +kernel
theorem dX9_cutNeck_141 : decode cX9_cutNeck 141 = .ok (.iaload, 1) := by decide +kernel
theorem dX9_cutNeck_142 : decode cX9_cutNeck 142 = .ok (.iconst 1, 1) := by decide +kernel
theorem dX9_cutNeck_143 : decode cX9_cutNeck 143 = .ok (.iadd, 1) := by decide +kernel
theorem dX9_cutNeck_144 : decode cX9_cutNeck 144 = .ok (.iastore, 1) := by decide +kernel
theorem dX9_cutNeck_145 : decode cX9_cutNeck 145 = .ok (.aload_n 0, 1) := by decide +kernel
theorem dX9_cutNeck_146 : decode cX9_cutNeck 146 = .ok (.getfield 7, 3) := by decide +kernel
theorem dX9_cutNeck_149 : decode cX9_cutNeck 149 = .ok (.iconst 4, 1) := by decide +kernel
theorem dX9_cutNeck_150 : decode cX9_cutNeck 150 = .ok (.dup2, 1) := by decide +kernel
theorem dX9_cutNeck_151 : decode cX9_cutNeck 151 = .ok (.iaload, 1) := by decide +kernel
theorem dX9_cutNeck_152 : decode cX9_cutNeck 152 = .ok (.iload_n 2, 1) := by decide +kernel
theorem dX9_cutNeck_153 : decode cX9_cutNeck 153 = .ok (.isub, 1) := by decide +kernel
theorem dX9_cutNeck_154 : decode cX9_cutNeck 154 = .ok (.iastore, 1) := by decide +kernel
theorem dX9_cutNeck_155 : decode cX9_cutNeck 155 = .ok (.aload_n 0, 1) := by decide +kernel
theorem dX9_cutNeck_156 : decode cX9_cutNeck 156 = .ok (.getfield 97, 3) := by decide +kernel
theorem dX9_cutNeck_159 : decode cX9_cutNeck 159 = .ok (.iconst 1, 1) := by decide +kernel
theorem dX9_cutNeck_160 : decode cX9_cutNeck 160 = .ok (.iadd, 1) := by decide +kernel
theorem dX9_cutNeck_161 : decode cX9_cutNeck 161 = .ok (.istore_n 3, 1) := by decide +kernel
theorem dX9_cutNeck_162 : decode cX9_cutNeck 162 = .ok (.iload_n 3, 1) := by decide +kernel
theorem dX9_cutNeck_163 : decode cX9_cutNeck 163 = .ok (.aload_n 0, 1) := by decide +kernel
theorem dX9_cutNeck_164 : decode cX9_cutNeck 164 = .ok (.getfield 7, 3) := by decide +kernel
theorem dX9_cutNeck_167 : decode cX9_cutNeck 167 = .ok (.iconst 4, 1) := by decide +kernel
theorem dX9_cutNeck_168 : decode cX9_cutNeck 168 = .ok (.iaload, 1) := by decide +kernel
theorem dX9_cutNeck_169 : decode cX9_cutNeck 169 = .ok (.if_icmp .ge 27, 3) := by decide +kernel
theorem dX9_cutNeck_172 : decode cX9_cutNeck 172 = .ok (.aload_n 0, 1) := by decide +kernel
theorem dX9_cutNeck_173 : decode cX9_cutNeck 173 = .ok (.getfield 7, 3) := by decide +kernel
theorem dX9_cutNeck_176 : decode cX9_cutNeck 176 = .ok (.iconst 5, 1) := by decide +kernel
theorem dX9_cutNeck_177 : decode cX9_cutNeck 177 = .ok (.iload_n 3, 1) := by decide +kernel
theorem dX9_cutNeck_178 : decode cX9_cutNeck 178 = .ok (.iadd, 1) := by decide +kernel
theorem dX9_cutNeck_179 : decode cX9_cutNeck 179 = .ok (.aload_n 0, 1) := by decide +kernel
theorem dX9_cutNeck_180 : decode cX9_cutNeck 180 = .ok (.getfield 7, 3) := by decide +kernel
theorem dX9_cutNeck_183 : decode cX9_cutNeck 183 = .ok (.iconst 5, 1) := by decide +kernel
theorem dX9_cutNeck_184 : decode cX9_cutNeck 184 = .ok (.iload_n 3, 1) := by decide +kernel
theorem dX9_cutNeck_185 : decode cX9_cutNeck 185 = .ok (.iadd, 1) := by decide +kernel
theorem dX9_cutNeck_186 : decode cX9_cutNeck 186 = .ok (.iload_n 2, 1) := by decide +kernel
theorem dX9_cutNeck_187 : decode cX9_cutNeck 187 = .ok (.iadd, 1) := by decide +kernel
theorem dX9_cutNeck_188 : decode cX9_cutNeck 188 = .ok (.iaload, 1) := by decide +kernel
theorem dX9_cutNeck_189 : decode cX9_cutNeck 189 = .ok (.iastore, 1) := by decide +kernel
theorem dX9_cutNeck_190 : decode cX9_cutNeck 190 = .ok (.iinc 3 1, 3) := by decide +kernel
theorem dX9_cutNeck_193 : decode cX9_cutNeck 193 = .ok (.goto (-31), 3) := by decide +kernel
theorem dX9_cutNeck_196 : decode cX9_cutNeck 196 = .ok (.aload_n 0, 1) := by decide +kernel
theorem dX9_cutNeck_197 : decode cX9_cutNeck 197 = .ok (.getfield 7, 3) := by decide +kernel
theorem dX9_cutNeck_200 : decode cX9_cutNeck 200 = .ok (.sipush 1405, 3) := by decide +kernel
theorem dX9_cutNeck_203 : decode cX9_cutNeck 203 = .ok (.dup2, 1) := by decide +kernel
theorem dX9_cutNeck_204 : decode cX9_cutNeck 204 = .ok (.iaload, 1) := by decide +kernel
theorem dX9_cutNeck_205 : decode cX9_cutNeck 205 = .ok (.iconst 1, 1) := by decide +kernel
theorem dX9_cutNeck_206 : decode cX9_cutNeck 206 = .ok (.iadd, 1) := by decide +kernel
theorem dX9_cutNeck_207 : decode cX9_cutNeck 207 = .ok (.iastore, 1) := by decide +kernel
theorem dX9_cutNeck_208 : decode cX9_cutNeck 208 = .ok (.return_, 1) := by decide +kernel
theorem dX9_isFloodYear_0 : decode cX9_isFloodYear 0 = .ok (.iconst 0, 1) := by decide +kernel
theorem dX9_isFloodYear_1 : decode cX9_isFloodYear 1 = .ok (.istore_n 2, 1) := by decide +kernel
theorem dX9_isFloodYear_2 : decode cX9_isFloodYear 2 = .ok (.iconst 0, 1) := by decide +kernel
theorem dX9_isFloodYear_3 : decode cX9_isFloodYear 3 = .ok (.istore_n 3, 1) := by decide +kernel
theorem dX9_isFloodYear_4 : decode cX9_isFloodYear 4 = .ok (.iload_n 3, 1) := by decide +kernel
theorem dX9_isFloodYear_5 : decode cX9_isFloodYear 5 = .ok (.aload_n 0, 1) := by decide +kernel
theorem dX9_isFloodYear_6 : decode cX9_isFloodYear 6 = .ok (.getfield 7, 3) := by decide +kernel
theorem dX9_isFloodYear_9 : decode cX9_isFloodYear 9 = .ok (.sipush 1395, 3) := by decide +kernel
theorem dX9_isFloodYear_12 : decode cX9_isFloodYear 12 = .ok (.iaload, 1) := by decide +kernel
theorem dX9_isFloodYear_13 : decode cX9_isFloodYear 13 = .ok (.if_icmp .ge 33, 3) := by decide +kernel
theorem dX9_isFloodYear_16 : decode cX9_isFloodYear 16 = .ok (.iload_n 2, 1) := by decide +kernel
theorem dX9_isFloodYear_17 : decode cX9_isFloodYear 17 = .ok (.ifCond .ne 17, 3) := by decide +kernel
theorem dX9_isFloodYear_20 : decode cX9_isFloodYear 20 = .ok (.aload_n 0, 1) := by decide +kernel
theorem dX9_isFloodYear_21 : decode cX9_isFloodYear 21 = .ok (.getfield 7, 3) := by decide +kernel
theorem dX9_isFloodYear_24 : decode cX9_isFloodYear 24 = .ok (.sipush 1396, 3) := by decide +kernel
theorem dX9_isFloodYear_27 : decode cX9_isFloodYear 27 = .ok (.iload_n 3, 1) := by decide +kernel
theorem dX9_isFloodYear_28 : decode cX9_isFloodYear 28 = .ok (.iadd, 1) := by decide +kernel
theorem dX9_isFloodYear_29 : decode cX9_isFloodYear 29 = .ok (.iaload, 1) := by decide +kernel
theorem dX9_isFloodYear_30 : decode cX9_isFloodYear 30 = .ok (.iload_n 1, 1) := by decide +kernel
theorem dX9_isFloodYear_31 : decode cX9_isFloodYear 31 = .ok (.if_icmp .ne 7, 3) := by decide +kernel
theorem dX9_isFloodYear_34 : decode cX9_isFloodYear 34 = .ok (.iconst 1, 1) := by decide +kernel
theorem dX9_isFloodYear_35 : decode cX9_isFloodYear 35 = .ok (.goto 4, 3) := by decide +kernel
theorem dX9_isFloodYear_38 : decode cX9_isFloodYear 38 = .ok (.iconst 0, 1) := by decide +kernel
theorem dX9_isFloodYear_39 : decode cX9_isFloodYear 39 = .ok (.istore_n 2, 1) := by decide +kernel
theorem dX9_isFloodYear_40 : decode cX9_isFloodYear 40 = .ok (.iinc 3 1, 3) := by decide +kernel
theorem dX9_isFloodYear_43 : decode cX9_isFloodYear 43 = .ok (.goto (-39), 3) := by decide +kernel
theorem dX9_isFloodYear_46 : decode cX9_isFloodYear 46 = .ok (.iload_n 2, 1) := by decide +kernel
theorem dX9_isFloodYear_47 : decode cX9_isFloodYear 47 = .ok (.ireturn, 1) := by decide +kernel
theorem dX9_wear_0 : decode cX9_wear 0 = .ok (.aload_n 0, 1) := by decide +kernel
theorem dX9_wear_1 : decode cX9_wear 1 = .ok (.invokevirtual 112, 3) := by decide +kernel
theorem dX9_wear_4 : decode cX9_wear 4 = .ok (.aload_n 0, 1) := by decide +kernel
theorem dX9_wear_5 : decode cX9_wear 5 = .ok (.getfield 7, 3) := by decide +kernel
theorem dX9_wear_8 : decode cX9_wear 8 = .ok (.iconst 0, 1) := by decide +kernel
theorem dX9_wear_9 : decode cX9_wear 9 = .ok (.iaload, 1) := by decide +kernel
theorem dX9_wear_10 : decode cX9_wear 10 = .ok (.aload_n 0, 1) := by decide +kernel
theorem dX9_wear_11 : decode cX9_wear 11 = .ok (.aload_n 0, 1) := by decide +kernel
theorem dX9_wear_12 : decode cX9_wear 12 = .ok (.getfield 7, 3) := by decide +kernel
theorem dX9_wear_15 : decode cX9_wear 15 = .ok (.sipush 1404, 3) := by decide +kernel
theorem dX9_wear_18 : decode cX9_wear 18 = .ok (.iaload, 1) := by decide +kernel
theorem dX9_wear_19 : decode cX9_wear 19 = .ok (.invokevirtual 115, 3) := by decide +kernel
theorem dX9_wear_22 : decode cX9_wear 22 = .ok (.ifCond .eq 7, 3) := by decide +kernel
theorem dX9_wear_25 : decode cX9_wear 25 = .ok (.iconst 2, 1) := by decide +kernel
theorem dX9_wear_26 : decode cX9_wear 26 = .ok (.goto 4, 3) := by decide +kernel
theorem dX9_wear_29 : decode cX9_wear 29 = .ok (.iconst 1, 1) := by decide +kernel
theorem dX9_wear_30 : decode cX9_wear 30 = .ok (.imul, 1) := by decide +kernel
theorem dX9_wear_31 : decode cX9_wear 31 = .ok (.istore_n 1, 1) := by decide +kernel
theorem dX9_wear_32 : decode cX9_wear 32 = .ok (.iconst 0, 1) := by decide +kernel
theorem dX9_wear_33 : decode cX9_wear 33 = .ok (.istore_n 2, 1) := by decide +kernel
theorem dX9_wear_34 : decode cX9_wear 34 = .ok (.iload_n 2, 1) := by decide +kernel
theorem dX9_wear_35 : decode cX9_wear 35 = .ok (.aload_n 0, 1) := by decide +kernel
theorem dX9_wear_36 : decode cX9_wear 36 = .ok (.getfield 62, 3) := by decide +kernel
theorem dX9_wear_39 : decode cX9_wear 39 = .ok (.if_icmp .ge 104, 3) := by decide +kernel
theorem dX9_wear_42 : decode cX9_wear 42 = .ok (.aload_n 0, 1) := by decide +kernel
theorem dX9_wear_43 : decode cX9_wear 43 = .ok (.iload_n 2, 1) := by decide +kernel
theorem dX9_wear_44 : decode cX9_wear 44 = .ok (.invokevirtual 79, 3) := by decide +kernel
theorem dX9_wear_47 : decode cX9_wear 47 = .ok (.ifCond .ne 90, 3) := by decide +kernel
theorem dX9_wear_50 : decode cX9_wear 50 = .ok (.aload_n 0, 1) := by decide +kernel
theorem dX9_wear_51 : decode cX9_wear 51 = .ok (.getfield 29, 3) := by decide +kernel
theorem dX9_wear_54 : decode cX9_wear 54 = .ok (.iload_n 2, 1) := by decide +kernel
theorem dX9_wear_55 : decode cX9_wear 55 = .ok (.iaload, 1) := by decide +kernel
theorem dX9_wear_56 : decode cX9_wear 56 = .ok (.istore_n 3, 1) := by decide +kernel
theorem dX9_wear_57 : decode cX9_wear 57 = .ok (.iload_n 3, 1) := by decide +kernel
theorem dX9_wear_58 : decode cX9_wear 58 = .ok (.aload_n 0, 1) := by decide +kernel
theorem dX9_wear_59 : decode cX9_wear 59 = .ok (.getfield 32, 3) := by decide +kernel
theorem dX9_wear_62 : decode cX9_wear 62 = .ok (.iload_n 2, 1) := by decide +kernel
theorem dX9_wear_63 : decode cX9_wear 63 = .ok (.iaload, 1) := by decide +kernel
theorem dX9_wear_64 : decode cX9_wear 64 = .ok (.if_icmp .gt 73, 3) := by decide +kernel
theorem dX9_wear_67 : decode cX9_wear 67 = .ok (.aload_n 0, 1) := by decide +kernel
theorem dX9_wear_68 : decode cX9_wear 68 = .ok (.iload_n 2, 1) := by decide +kernel
theorem dX9_wear_69 : decode cX9_wear 69 = .ok (.iload_n 3, 1) := by decide +kernel
theorem dX9_wear_70 : decode cX9_wear 70 = .ok (.invokevirtual 76, 3) := by decide +kernel
theorem dX9_wear_73 : decode cX9_wear 73 = .ok (.istore 4, 2) := by decide +kernel
theorem dX9_wear_75 : decode cX9_wear 75 = .ok (.aload_n 0, 1) := by decide +kernel
theorem dX9_wear_76 : decode cX9_wear 76 = .ok (.getfield 7, 3) := by decide +kernel
theorem dX9_wear_79 : decode cX9_wear 79 = .ok (.sipush 155, 3) := by decide +kernel
theorem dX9_wear_82 : decode cX9_wear 82 = .ok (.iload 4, 2) := by decide +kernel
theorem dX9_wear_84 : decode cX9_wear 84 = .ok (.iadd, 1) := by decide +kernel
theorem dX9_wear_85 : decode cX9_wear 85 = .ok (.iaload, 1) := by decide +kernel
theorem dX9_wear_86 : decode cX9_wear 86 = .ok (.iload_n 1, 1) := by decide +kernel
theorem dX9_wear_87 : decode cX9_wear 87 = .ok (.iadd, 1) := by decide +kernel
theorem dX9_wear_88 : decode cX9_wear 88 = .ok (.istore 5, 2) := by decide +kernel
theorem dX9_wear_90 : decode cX9_wear 90 = .ok (.aload_n 0, 1) := by decide +kernel
theorem dX9_wear_91 : decode cX9_wear 91 = .ok (.getfield 7, 3) := by decide +kernel
theorem dX9_wear_94 : decode cX9_wear 94 = .ok (.sipush 155, 3) := by decide +kernel
theorem dX9_wear_97 : decode cX9_wear 97 = .ok (.iload 4, 2) := by decide +kernel
theorem dX9_wear_99 : decode cX9_wear 99 = .ok (.iadd, 1) := by decide +kernel
theorem dX9_wear_100 : decode cX9_wear 100 = .ok (.iload 5, 2) := by decide +kernel
theorem dX9_wear_102 : decode cX9_wear 102 = .ok (.bipush 99, 2) := by decide +kernel
theorem dX9_wear_104 : decode cX9_wear 104 = .ok (.if_icmp .gt 19, 3) := by decide +kernel
theorem dX9_wear_107 : decode cX9_wear 107 = .ok (.aload_n 0, 1) := by decide +kernel
theorem dX9_wear_108 : decode cX9_wear 108 = .ok (.getfield 7, 3) := by decide +kernel
theorem dX9_wear_111 : decode cX9_wear 111 = .ok (.sipush 1115, 3) := by decide +kernel
theorem dX9_wear_114 : decode cX9_wear 114 = .ok (.iload 4, 2) := by decide +kernel
theorem dX9_wear_116 : decode cX9_wear 116 = .ok (.iadd, 1) := by decide +kernel
theorem dX9_wear_117 : decode cX9_wear 117 = .ok (.iaload, 1) := by decide +kernel
theorem dX9_wear_118 : decode cX9_wear 118 = .ok (.bipush (-6), 2) := by decide +kernel
theorem dX9_wear_120 : decode cX9_wear 120 = .ok (.if_icmp .eq 8, 3) := by decide +kernel
theorem dX9_wear_123 : decode cX9_wear 123 = .ok (.bipush 99, 2) := by decide +kernel
theorem dX9_wear_125 : decode cX9_wear 125 = .ok (.goto 5, 3) := by decide +kernel
theorem dX9_wear_128 : decode cX9_wear 128 = .ok (.iload 5, 2) := by decide +kernel
theorem dX9_wear_130 : decode cX9_wear 130 = .ok (.iastore, 1) := by decide +kernel
theorem dX9_wear_131 : decode cX9_wear 131 = .ok (.iinc 3 1, 3) := by decide +kernel
theorem dX9_wear_134 : decode cX9_wear 134 = .ok (.goto (-77), 3) := by decide +kernel
theorem dX9_wear_137 : decode cX9_wear 137 = .ok (.iinc 2 1, 3) := by decide +kernel
theorem dX9_wear_140 : decode cX9_wear 140 = .ok (.goto (-106), 3) := by decide +kernel
theorem dX9_wear_143 : decode cX9_wear 143 = .ok (.return_, 1) := by decide +kernel
theorem dX9_growAll_0 : decode cX9_growAll 0 = .ok (.iconst 0, 1) := by decide +kernel
theorem dX9_growAll_1 : decode cX9_growAll 1 = .ok (.istore_n 1, 1) := by decide +kernel
theorem dX9_growAll_2 : decode cX9_growAll 2 = .ok (.iconst 1, 1) := by decide +kernel
theorem dX9_growAll_3 : decode cX9_growAll 3 = .ok (.istore_n 2, 1) := by decide +kernel
theorem dX9_growAll_4 : decode cX9_growAll 4 = .ok (.iload_n 2, 1) := by decide +kernel
theorem dX9_growAll_5 : decode cX9_growAll 5 = .ok (.ifCond .eq 66, 3) := by decide +kernel
theorem dX9_growAll_8 : decode cX9_growAll 8 = .ok (.aload_n 0, 1) := by decide +kernel
theorem dX9_growAll_9 : decode cX9_growAll 9 = .ok (.invokevirtual 112, 3) := by decide +kernel
theorem dX9_growAll_12 : decode cX9_growAll 12 = .ok (.iconst 0, 1) := by decide +kernel
theorem dX9_growAll_13 : decode cX9_growAll 13 = .ok (.istore_n 2, 1) := by decide +kernel
theorem dX9_growAll_14 : decode cX9_growAll 14 = .ok (.iconst 0, 1) := by decide +kernel
theorem dX9_growAll_15 : decode cX9_growAll 15 = .ok (.istore_n 3, 1) := by decide +kernel
theorem dX9_growAll_16 : decode cX9_growAll 16 = .ok (.iload_n 3, 1) := by decide +kernel
theorem dX9_growAll_17 : decode cX9_growAll 17 = .ok (.aload_n 0, 1) := by decide +kernel
theorem dX9_growAll_18 : decode cX9_growAll 18 = .ok (.getfield 62, 3) := by decide +kernel
theorem dX9_growAll_21 : decode cX9_growAll 21 = .ok (.if_icmp .ge 47, 3) := by decide +kernel
theorem dX9_growAll_24 : decode cX9_growAll 24 = .ok (.iload_n 2, 1) := by decide +kernel
theorem dX9_growAll_25 : decode cX9_growAll 25 = .ok (.ifCond .ne 43, 3) := by decide +kernel
theorem dX9_growAll_28 : decode cX9_growAll 28 = .ok (.aload_n 0, 1) := by decide +kernel
theorem dX9_growAll_29 : decode cX9_growAll 29 = .ok (.getfield 29, 3) := by decide +kernel
theorem dX9_growAll_32 : decode cX9_growAll 32 = .ok (.iload_n 3, 1) := by decide +kernel
theorem dX9_growAll_33 : decode cX9_growAll 33 = .ok (.iaload, 1) := by decide +kernel
theorem dX9_growAll_34 : decode cX9_growAll 34 = .ok (.iload_n 1, 1) := by decide +kernel
theorem dX9_growAll_35 : decode cX9_growAll 35 = .ok (.if_icmp .lt 15, 3) := by decide +kernel
theorem dX9_growAll_38 : decode cX9_growAll 38 = .ok (.aload_n 0, 1) := by decide +kernel
theorem dX9_growAll_39 : decode cX9_growAll 39 = .ok (.iload_n 3, 1) := by decide +kernel
theorem dX9_growAll_40 : decode cX9_growAll 40 = .ok (.invokevirtual 118, 3) := by decide +kernel
theorem dX9_growAll_43 : decode cX9_growAll 43 = .ok (.ifCond .eq 7, 3) := by decide +kernel
theorem dX9_growAll_46 : decode cX9_growAll 46 = .ok (.iconst 1, 1) := by decide +kernel
theorem dX9_growAll_47 : decode cX9_growAll 47 = .ok (.goto 4, 3) := by decide +kernel
theorem dX9_growAll_50 : decode cX9_growAll 50 = .ok (.iconst 0, 1) := by decide +kernel
theorem dX9_growAll_51 : decode cX9_growAll 51 = .ok (.istore_n 2, 1) := by decide +kernel
theorem dX9_growAll_52 : decode cX9_growAll 52 = .ok (.iload_n 2, 1) := by decide +kernel
theorem dX9_growAll_53 : decode cX9_growAll 53 = .ok (.ifCond .eq 9, 3) := by decide +kernel
theorem dX9_growAll_56 : decode cX9_growAll 56 = .ok (.aload_n 0, 1) := by decide +kernel
theorem dX9_growAll_57 : decode cX9_growAll 57 = .ok (.iload_n 3, 1) := by decide +kernel
theorem dX9_growAll_58 : decode cX9_growAll 58 = .ok (.invokevirtual 121, 3) := by decide +kernel
theorem dX9_growAll_61 : decode cX9_growAll 61 = .ok (.istore_n 1, 1) := by decide +kernel
theorem dX9_growAll_62 : decode cX9_growAll 62 = .ok (.iinc 3 1, 3) := by decide +kernel
theorem dX9_growAll_65 : decode cX9_growAll 65 = .ok (.goto (-49), 3) := by decide +kernel
theorem dX9_growAll_68 : decode cX9_growAll 68 = .ok (.goto (-64), 3) := by decide +kernel
theorem dX9_growAll_71 : decode cX9_growAll 71 = .ok (.return_, 1) := by decide +kernel
theorem dX9_age_0 : decode cX9_age 0 = .ok (.iconst 0, 1) := by decide +kernel
theorem dX9_age_1 : decode cX9_age 1 = .ok (.istore_n 1, 1) := by decide +kernel
theorem dX9_age_2 : decode cX9_age 2 = .ok (.iload_n 1, 1) := by decide +kernel
theorem dX9_age_3 : decode cX9_age 3 = .ok (.sipush 480, 3) := by decide +kernel
theorem dX9_age_6 : decode cX9_age 6 = .ok (.if_icmp .ge 16, 3) := by decide +kernel
theorem dX9_age_9 : decode cX9_age 9 = .ok (.aload_n 0, 1) := by decide +kernel
theorem dX9_age_10 : decode cX9_age 10 = .ok (.getfield 41, 3) := by decide +kernel
theorem dX9_age_13 : decode cX9_age 13 = .ok (.iload_n 1, 1) := by decide +kernel
theorem dX9_age_14 : decode cX9_age 14 = .ok (.iconst 0, 1) := by decide +kernel
theorem dX9_age_15 : decode cX9_age 15 = .ok (.bastore, 1) := by decide +kernel
theorem dX9_age_16 : decode cX9_age 16 = .ok (.iinc 1 1, 3) := by decide +kernel
theorem dX9_age_19 : decode cX9_age 19 = .ok (.goto (-17), 3) := by decide +kernel
theorem dX9_age_22 : decode cX9_age 22 = .ok (.iconst 0, 1) := by decide +kernel
theorem dX9_age_23 : decode cX9_age 23 = .ok (.istore_n 1, 1) := by decide +kernel
theorem dX9_age_24 : decode cX9_age 24 = .ok (.iload_n 1, 1) := by decide +kernel
theorem dX9_age_25 : decode cX9_age 25 = .ok (.aload_n 0, 1) := by decide +kernel
theorem dX9_age_26 : decode cX9_age 26 = .ok (.getfield 7, 3) := by decide +kernel
theorem dX9_age_29 : decode cX9_age 29 = .ok (.iconst 4, 1) := by decide +kernel
theorem dX9_age_30 : decode cX9_age 30 = .ok (.iaload, 1) := by decide +kernel
theorem dX9_age_31 : decode cX9_age 31 = .ok (.if_icmp .ge 80, 3) := by decide +kernel
theorem dX9_age_34 : decode cX9_age 34 = .ok (.iload_n 1, 1) := by decide +kernel
theorem dX9_age_35 : decode cX9_age 35 = .ok (.iconst 3, 1) := by decide +kernel
theorem dX9_age_36 : decode cX9_age 36 = .ok (.iadd, 1) := by decide +kernel
theorem dX9_age_37 : decode cX9_age 37 = .ok (.istore_n 2, 1) := by decide +kernel
theorem dX9_age_38 : decode cX9_age 38 = .ok (.iload_n 2, 1) := by decide +kernel
theorem dX9_age_39 : decode cX9_age 39 = .ok (.aload_n 0, 1) := by decide +kernel
theorem dX9_age_40 : decode cX9_age 40 = .ok (.getfield 7, 3) := by decide +kernel
theorem dX9_age_43 : decode cX9_age 43 = .ok (.iconst 4, 1) := by decide +kernel
theorem dX9_age_44 : decode cX9_age 44 = .ok (.iaload, 1) := by decide +kernel
theorem dX9_age_45 : decode cX9_age 45 = .ok (.if_icmp .ge 60, 3) := by decide +kernel
theorem dX9_age_48 : decode cX9_age 48 = .ok (.aload_n 0, 1) := by decide +kernel
theorem dX9_age_49 : decode cX9_age 49 = .ok (.getfield 7, 3) := by decide +kernel
theorem dX9_age_52 : decode cX9_age 52 = .ok (.iconst 5, 1) := by decide +kernel
theorem dX9_age_53 : decode cX9_age 53 = .ok (.iload_n 1, 1) := by decide +kernel
theorem dX9_age_54 : decode cX9_age 54 = .ok (.iadd, 1) := by decide +kernel
theorem dX9_age_55 : decode cX9_age 55 = .ok (.iaload, 1) := by decide +kernel
theorem dX9_age_56 : decode cX9_age 56 = .ok (.aload_n 0, 1) := by decide +kernel
theorem dX9_age_57 : decode cX9_age 57 = .ok (.getfield 7, 3) := by decide +kernel
theorem dX9_age_60 : decode cX9_age 60 = .ok (.iconst 5, 1) := by decide +kernel
theorem dX9_age_61 : decode cX9_age 61 = .ok (.iload_n 2, 1) := by decide +kernel
theorem dX9_age_62 : decode cX9_age 62 = .ok (.iadd, 1) := by decide +kernel
theorem dX9_age_63 : decode cX9_age 63 = .ok (.iaload, 1) := by decide +kernel
theorem dX9_age_64 : decode cX9_age 64 = .ok (.invokestatic 100, 3) := by decide +kernel
theorem dX9_age_67 : decode cX9_age 67 = .ok (.ifCond .eq 32, 3) := by decide +kernel
theorem dX9_age_70 : decode cX9_age 70 = .ok (.aload_n 0, 1) := by decide +kernel
theorem dX9_age_71 : decode cX9_age 71 = .ok (.getfield 41, 3) := by decide +kernel
theorem dX9_age_74 : decode cX9_age 74 = .ok (.aload_n 0, 1) := by decide +kernel
theorem dX9_age_75 : decode cX9_age 75 = .ok (.getfield 7, 3) := by decide +kernel
theorem dX9_age_78 : decode cX9_age 78 = .ok (.iconst 5, 1) := by decide +kernel
theorem dX9_age_79 : decode cX9_age 79 = .ok (.iload_n 1, 1) := by decide +kernel
theorem dX9_age_80 : decode cX9_age 80 = .ok (.iadd, 1) := by decide +kernel
theorem dX9_age_81 : decode cX9_age 81 = .ok (.iaload, 1) := by decide +kernel
theorem dX9_age_82 : decode cX9_age 82 = .ok (.aload_n 0, 1) := by decide +kernel
theorem dX9_age_83 : decode cX9_age 83 = .ok (.getfield 7, 3) := by decide +kernel
theorem dX9_age_86 : decode cX9_age 86 = .ok (.iconst 5, 1) := by decide +kernel
theorem dX9_age_87 : decode cX9_age 87 = .ok (.iload_n 2, 1) := by decide +kernel
theorem dX9_age_88 : decode cX9_age 88 = .ok (.iadd, 1) := by decide +kernel
theorem dX9_age_89 : decode cX9_age 89 = .ok (.iaload, 1) := by decide +kernel
theorem dX9_age_90 : decode cX9_age 90 = .ok (.invokestatic 103, 3) := by decide +kernel
theorem dX9_age_93 : decode cX9_age 93 = .ok (.sipush 635, 3) := by decide +kernel
theorem dX9_age_96 : decode cX9_age 96 = .ok (.isub, 1) := by decide +kernel
theorem dX9_age_97 : decode cX9_age 97 = .ok (.iconst 1, 1) := by decide +kernel
theorem dX9_age_98 : decode cX9_age 98 = .ok (.bastore, 1) := by decide +kernel
theorem dX9_age_99 : decode cX9_age 99 = .ok (.iinc 2 1, 3) := by decide +kernel
theorem dX9_age_102 : decode cX9_age 102 = .ok (.goto (-64), 3) := by decide +kernel
theorem dX9_age_105 : decode cX9_age 105 = .ok (.iinc 1 1, 3) := by decide +kernel
theorem dX9_age_108 : decode cX9_age 108 = .ok (.goto (-84), 3) := by decide +kernel
theorem dX9_age_111 : decode cX9_age 111 = .ok (.iconst 0, 1) := by decide +kernel
theorem dX9_age_112 : decode cX9_age 112 = .ok (.istore_n 1, 1) := by decide +kernel
theorem dX9_age_113 : decode cX9_age 113 = .ok (.iload_n 1, 1) := by decide +kernel
theorem dX9_age_114 : decode cX9_age 114 = .ok (.sipush 480, 3) := by decide +kernel
theorem dX9_age_117 : decode cX9_age 117 = .ok (.if_icmp .ge 44, 3) := by decide +kernel
theorem dX9_age_120 : decode cX9_age 120 = .ok (.aload_n 0, 1) := by decide +kernel
theorem dX9_age_121 : decode cX9_age 121 = .ok (.getfield 7, 3) := by decide +kernel
theorem dX9_age_124 : decode cX9_age 124 = .ok (.sipush 635, 3) := by decide +kernel
theorem dX9_age_127 : decode cX9_age 127 = .ok (.iload_n 1, 1) := by decide +kernel
theorem dX9_age_128 : decode cX9_age 128 = .ok (.iadd, 1) := by decide +kernel
theorem dX9_age_129 : decode cX9_age 129 = .ok (.aload_n 0, 1) := by decide +kernel
theorem dX9_age_130 : decode cX9_age 130 = .ok (.getfield 41, 3) := by decide +kernel
theorem dX9_age_133 : decode cX9_age 133 = .ok (.iload_n 1, 1) := by decide +kernel
theorem dX9_age_134 : decode cX9_age 134 = .ok (.baload, 1) := by decide +kernel
theorem dX9_age_135 : decode cX9_age 135 = .ok (.ifCond .eq 18, 3) := by decide +kernel
theorem dX9_age_138 : decode cX9_age 138 = .ok (.aload_n 0, 1) := by decide +kernel
theorem dX9_age_139 : decode cX9_age 139 = .ok (.getfield 7, 3) := by decide +kernel
theorem dX9_age_142 : decode cX9_age 142 = .ok (.sipush 635, 3) := by decide +kernel
theorem dX9_age_145 : decode cX9_age 145 = .ok (.iload_n 1, 1) := by decide +kernel
theorem dX9_age_146 : decode cX9_age 146 = .ok (.iadd, 1) := by decide +kernel
theorem dX9_age_147 : decode cX9_age 147 = .ok (.iaload, 1) := by decide +kernel
theorem dX9_age_148 : decode cX9_age 148 = .ok (.iconst 1, 1) := by decide +kernel
theorem dX9_age_149 : decode cX9_age 149 = .ok (.iadd, 1) := by decide +kernel
theorem dX9_age_150 : decode cX9_age 150 = .ok (.goto 4, 3) := by decide +kernel
theorem dX9_age_153 : decode cX9_age 153 = .ok (.iconst 0, 1) := by decide +kernel
theorem dX9_age_154 : decode cX9_age 154 = .ok (.iastore, 1) := by decide +kernel
theorem dX9_age_155 : decode cX9_age 155 = .ok (.iinc 1 1, 3) := by decide +kernel
theorem dX9_age_158 : decode cX9_age 158 = .ok (.goto (-45), 3) := by decide +kernel
theorem dX9_age_161 : decode cX9_age 161 = .ok (.return_, 1) := by decide +kernel
theorem dX9_goOn_0 : decode cX9_goOn 0 = .ok (.aload_n 0, 1) := by decide +kernel
theorem dX9_goOn_1 : decode cX9_goOn 1 = .ok (.invokevirtual 124, 3) := by decide +kernel
theorem dX9_goOn_4 : decode cX9_goOn 4 = .ok (.aload_n 0, 1) := by decide +kernel
theorem dX9_goOn_5 : decode cX9_goOn 5 = .ok (.invokevirtual 127, 3) := by decide +kernel
theorem dX9_goOn_8 : decode cX9_goOn 8 = .ok (.aload_n 0, 1) := by decide +kernel
theorem dX9_goOn_9 : decode cX9_goOn 9 = .ok (.invokevirtual 130, 3) := by decide +kernel
theorem dX9_goOn_12 : decode cX9_goOn 12 = .ok (.aload_n 0, 1) := by decide +kernel
theorem dX9_goOn_13 : decode cX9_goOn 13 = .ok (.getfield 7, 3) := by decide +kernel
theorem dX9_goOn_16 : decode cX9_goOn 16 = .ok (.iconst 4, 1) := by decide +kernel
theorem dX9_goOn_17 : decode cX9_goOn 17 = .ok (.iaload, 1) := by decide +kernel
theorem dX9_goOn_18 : decode cX9_goOn 18 = .ok (.istore_n 1, 1) := by decide +kernel
theorem dX9_goOn_19 : decode cX9_goOn 19 = .ok (.aload_n 0, 1) := by decide +kernel
theorem dX9_goOn_20 : decode cX9_goOn 20 = .ok (.aload_n 0, 1) := by decide +kernel
theorem dX9_goOn_21 : decode cX9_goOn 21 = .ok (.getfield 7, 3) := by decide +kernel
theorem dX9_goOn_24 : decode cX9_goOn 24 = .ok (.sipush 1404, 3) := by decide +kernel
theorem dX9_goOn_27 : decode cX9_goOn 27 = .ok (.iaload, 1) := by decide +kernel
theorem dX9_goOn_28 : decode cX9_goOn 28 = .ok (.invokevirtual 115, 3) := by decide +kernel
theorem dX9_goOn_31 : decode cX9_goOn 31 = .ok (.ifCond .eq 7, 3) := by decide +kernel
theorem dX9_goOn_34 : decode cX9_goOn 34 = .ok (.iconst 0, 1) := by decide +kernel
theorem dX9_goOn_35 : decode cX9_goOn 35 = .ok (.goto 9, 3) := by decide +kernel
theorem dX9_goOn_38 : decode cX9_goOn 38 = .ok (.aload_n 0, 1) := by decide +kernel
theorem dX9_goOn_39 : decode cX9_goOn 39 = .ok (.getfield 7, 3) := by decide +kernel
theorem dX9_goOn_42 : decode cX9_goOn 42 = .ok (.iconst 2, 1) := by decide +kernel
theorem dX9_goOn_43 : decode cX9_goOn 43 = .ok (.iaload, 1) := by decide +kernel
theorem dX9_goOn_44 : decode cX9_goOn 44 = .ok (.istore_n 2, 1) := by decide +kernel
theorem dX9_goOn_45 : decode cX9_goOn 45 = .ok (.aload_n 0, 1) := by decide +kernel
theorem dX9_goOn_46 : decode cX9_goOn 46 = .ok (.iconst (-1), 1) := by decide +kernel
theorem dX9_goOn_47 : decode cX9_goOn 47 = .ok (.iload_n 2, 1) := by decide +kernel
theorem dX9_goOn_48 : decode cX9_goOn 48 = .ok (.invokevirtual 133, 3) := by decide +kernel
theorem dX9_goOn_51 : decode cX9_goOn 51 = .ok (.ifCond .eq 10, 3) := by decide +kernel
theorem dX9_goOn_54 : decode cX9_goOn 54 = .ok (.aload_n 0, 1) := by decide +kernel
theorem dX9_goOn_55 : decode cX9_goOn 55 = .ok (.invokevirtual 136, 3) := by decide +kernel
theorem dX9_goOn_58 : decode cX9_goOn 58 = .ok (.goto (-13), 3) := by decide +kernel
theorem dX9_goOn_61 : decode cX9_goOn 61 = .ok (.aload_n 0, 1) := by decide +kernel
theorem dX9_goOn_62 : decode cX9_goOn 62 = .ok (.getfield 7, 3) := by decide +kernel
theorem dX9_goOn_65 : decode cX9_goOn 65 = .ok (.sipush 1355, 3) := by decide +kernel
theorem dX9_goOn_68 : decode cX9_goOn 68 = .ok (.iaload, 1) := by decide +kernel
theorem dX9_goOn_69 : decode cX9_goOn 69 = .ok (.iconst 1, 1) := by decide +kernel
theorem dX9_goOn_70 : decode cX9_goOn 70 = .ok (.isub, 1) := by decide +kernel
theorem dX9_goOn_71 : decode cX9_goOn 71 = .ok (.istore_n 3, 1) := by decide +kernel
theorem dX9_goOn_72 : decode cX9_goOn 72 = .ok (.iload_n 3, 1) := by decide +kernel
theorem dX9_goOn_73 : decode cX9_goOn 73 = .ok (.ifCond .lt 55, 3) := by decide +kernel
theorem dX9_goOn_76 : decode cX9_goOn 76 = .ok (.aload_n 0, 1) := by decide +kernel
theorem dX9_goOn_77 : decode cX9_goOn 77 = .ok (.getfield 7, 3) := by decide +kernel
theorem dX9_goOn_80 : decode cX9_goOn 80 = .ok (.sipush 1356, 3) := by decide +kernel
theorem dX9_goOn_83 : decode cX9_goOn 83 = .ok (.iconst 3, 1) := by decide +kernel
theorem dX9_goOn_84 : decode cX9_goOn 84 = .ok (.iload_n 3, 1) := by decide +kernel
theorem dX9_goOn_85 : decode cX9_goOn 85 = .ok (.imul, 1) := by decide +kernel
theorem dX9_goOn_86 : decode cX9_goOn 86 = .ok (.iadd, 1) := by decide +kernel
theorem dX9_goOn_87 : decode cX9_goOn 87 = .ok (.iconst 1, 1) := by decide +kernel
theorem dX9_goOn_88 : decode cX9_goOn 88 = .ok (.iadd, 1) := by decide +kernel
theorem dX9_goOn_89 : decode cX9_goOn 89 = .ok (.dup2, 1) := by decide +kernel
theorem dX9_goOn_90 : decode cX9_goOn 90 = .ok (.iaload, 1) := by decide +kernel
theorem dX9_goOn_91 : decode cX9_goOn 91 = .ok (.iconst 1, 1) := by decide +kernel
theorem dX9_goOn_92 : decode cX9_goOn 92 = .ok (.iadd, 1) := by decide +kernel
theorem dX9_goOn_93 : decode cX9_goOn 93 = .ok (.iastore, 1) := by decide +kernel
theorem dX9_goOn_94 : decode cX9_goOn 94 = .ok (.aload_n 0, 1) := by decide +kernel
theorem dX9_goOn_95 : decode cX9_goOn 95 = .ok (.getfield 7, 3) := by decide +kernel
theorem dX9_goOn_98 : decode cX9_goOn 98 = .ok (.sipush 1356, 3) := by decide +kernel
theorem dX9_goOn_101 : decode cX9_goOn 101 = .ok (.iconst 3, 1) := by decide +kernel
theorem dX9_goOn_102 : decode cX9_goOn 102 = .ok (.iload_n 3, 1) := by decide +kernel
theorem dX9_goOn_103 : decode cX9_goOn 103 = .ok (.imul, 1) := by decide +kernel
theorem dX9_goOn_104 : decode cX9_goOn 104 = .ok (.iadd, 1) := by decide +kernel
theorem dX9_goOn_105 : decode cX9_goOn 105 = .ok (.iconst 1, 1) := by decide +kernel
theorem dX9_goOn_106 : decode cX9_goOn 106 = .ok (.iadd, 1) := by decide +kernel
theorem dX9_goOn_107 : decode cX9_goOn 107 = .ok (.iaload, 1) := by decide +kernel
theorem dX9_goOn_108 : decode cX9_goOn 108 = .ok (.aload_n 0, 1) := by decide +kernel
theorem dX9_goOn_109 : decode cX9_goOn 109 = .ok (.getfield 7, 3) := by decide +kernel
theorem dX9_goOn_112 : decode cX9_goOn 112 = .ok (.iconst 3, 1) := by decide +kernel
theorem dX9_goOn_113 : decode cX9_goOn 113 = .ok (.iaload, 1) := by decide +kernel
theorem dX9_goOn_114 : decode cX9_goOn 114 = .ok (.if_icmp .lt 8, 3) := by decide +kernel
theorem dX9_goOn_117 : decode cX9_goOn 117 = .ok (.aload_n 0, 1) := by decide +kernel
theorem dX9_goOn_118 : decode cX9_goOn 118 = .ok (.iload_n 3, 1) := by decide +kernel
theorem dX9_goOn_119 : decode cX9_goOn 119 = .ok (.invokevirtual 93, 3) := by decide +kernel
theorem dX9_goOn_122 : decode cX9_goOn 122 = .ok (.iinc 3 (-1), 3) := by decide +kernel
theorem dX9_goOn_125 : decode cX9_goOn 125 = .ok (.goto (-53), 3) := by decide +kernel
theorem dX9_goOn_128 : decode cX9_goOn 128 = .ok (.aload_n 0, 1) := by decide +kernel
theorem dX9_goOn_129 : decode cX9_goOn 129 = .ok (.getfield 7, 3) := by decide +kernel
theorem dX9_goOn_132 : decode cX9_goOn 132 = .ok (.sipush 1404, 3) := by decide +kernel
theorem dX9_goOn_135 : decode cX9_goOn 135 = .ok (.dup2, 1) := by decide +kernel
theorem dX9_goOn_136 : decode cX9_goOn 136 = .ok (.iaload, 1) := by decide +kernel
theorem dX9_goOn_137 : decode cX9_goOn 137 = .ok (.iconst 1, 1) := by decide +kernel
theorem dX9_goOn_138 : decode cX9_goOn 138 = .ok (.iadd, 1) := by decide +kernel
theorem dX9_goOn_139 : decode cX9_goOn 139 = .ok (.iastore, 1) := by decide +kernel
theorem dX9_goOn_140 : decode cX9_goOn 140 = .ok (.iload_n 1, 1) := by decide +kernel
theorem dX9_goOn_141 : decode cX9_goOn 141 = .ok (.aload_n 0, 1) := by decide +kernel
theorem dX9_goOn_142 : decode cX9_goOn 142 = .ok (.getfield 7, 3) := by decide +kernel
theorem dX9_goOn_145 : decode cX9_goOn 145 = .ok (.iconst 4, 1) := by decide +kernel
theorem dX9_goOn_146 : decode cX9_goOn 146 = .ok (.iaload, 1) := by decide +kernel
theorem dX9_goOn_147 : decode cX9_goOn 147 = .ok (.isub, 1) := by decide +kernel
theorem dX9_goOn_148 : decode cX9_goOn 148 = .ok (.ireturn, 1) := by decide +kernel
theorem dX9_set_0 : decode cX9_set 0 = .ok (.iload_n 1, 1) := by decide +kernel
theorem dX9_set_1 : decode cX9_set 1 = .ok (.ifCond .ne 8, 3) := by decide +kernel
theorem dX9_set_4 : decode cX9_set 4 = .ok (.bipush 9, 2) := by decide +kernel
theorem dX9_set_6 : decode cX9_set 6 = .ok (.goto 25, 3) := by decide +kernel
theorem dX9_set_9 : decode cX9_set 9 = .ok (.iload_n 1, 1) := by decide +kernel
theorem dX9_set_10 : decode cX9_set 10 = .ok (.iconst 1, 1) := by decide +kernel
theorem dX9_set_11 : decode cX9_set 11 = .ok (.if_icmp .ne 8, 3) := by decide +kernel
theorem dX9_set_14 : decode cX9_set 14 = .ok (.bipush 60, 2) := by decide +kernel
theorem dX9_set_16 : decode cX9_set 16 = .ok (.goto 15, 3) := by decide +kernel
theorem dX9_set_19 : decode cX9_set 19 = .ok (.iload_n 1, 1) := by decide +kernel
theorem dX9_set_20 : decode cX9_set 20 = .ok (.iconst 2, 1) := by decide +kernel
theorem dX9_set_21 : decode cX9_set 21 = .ok (.if_icmp .ne 8, 3) := by decide +kernel
theorem dX9_set_24 : decode cX9_set 24 = .ok (.bipush 20, 2) := by decide +kernel
theorem dX9_set_26 : decode cX9_set 26 = .ok (.goto 5, 3) := by decide +kernel
theorem dX9_set_29 : decode cX9_set 29 = .ok (.bipush 50, 2) := by decide +kernel
theorem dX9_set_31 : decode cX9_set 31 = .ok (.istore_n 3, 1) := by decide +kernel
theorem dX9_set_32 : decode cX9_set 32 = .ok (.iload_n 1, 1) := by decide +kernel
theorem dX9_set_33 : decode cX9_set 33 = .ok (.iconst 0, 1) := by decide +kernel
theorem dX9_set_34 : decode cX9_set 34 = .ok (.iconst 3, 1) := by decide +kernel
theorem dX9_set_35 : decode cX9_set 35 = .ok (.invokestatic 50, 3) := by decide +kernel
theorem dX9_set_38 : decode cX9_set 38 = .ok (.ifCond .eq 12, 3) := by decide +kernel
theorem dX9_set_41 : decode cX9_set 41 = .ok (.iload_n 2, 1) := by decide +kernel
theorem dX9_set_42 : decode cX9_set 42 = .ok (.iconst 1, 1) := by decide +kernel
theorem dX9_set_43 : decode cX9_set 43 = .ok (.iload_n 3, 1) := by decide +kernel
theorem dX9_set_44 : decode cX9_set 44 = .ok (.invokestatic 50, 3) := by decide +kernel
theorem dX9_set_47 : decode cX9_set 47 = .ok (.ifCond .ne 6, 3) := by decide +kernel
theorem dX9_set_50 : decode cX9_set 50 = .ok (.bipush (-2), 2) := by decide +kernel
theorem dX9_set_52 : decode cX9_set 52 = .ok (.ireturn, 1) := by decide +kernel
theorem dX9_set_53 : decode cX9_set 53 = .ok (.aload_n 0, 1) := by decide +kernel
theorem dX9_set_54 : decode cX9_set 54 = .ok (.invokevirtual 139, 3) := by decide +kernel
theorem dX9_set_57 : decode cX9_set 57 = .ok (.aload_n 0, 1) := by decide +kernel
theorem dX9_set_58 : decode cX9_set 58 = .ok (.getfield 7, 3) := by decide +kernel
theorem dX9_set_61 : decode cX9_set 61 = .ok (.iconst 0, 1) := by decide +kernel
theorem dX9_set_62 : decode cX9_set 62 = .ok (.iload_n 1, 1) := by decide +kernel
theorem dX9_set_63 : decode cX9_set 63 = .ok (.iadd, 1) := by decide +kernel
theorem dX9_set_64 : decode cX9_set 64 = .ok (.iaload, 1) := by decide +kernel
theorem dX9_set_65 : decode cX9_set 65 = .ok (.istore 4, 2) := by decide +kernel
theorem dX9_set_67 : decode cX9_set 67 = .ok (.aload_n 0, 1) := by decide +kernel
theorem dX9_set_68 : decode cX9_set 68 = .ok (.getfield 7, 3) := by decide +kernel
theorem dX9_set_71 : decode cX9_set 71 = .ok (.iconst 0, 1) := by decide +kernel
theorem dX9_set_72 : decode cX9_set 72 = .ok (.iload_n 1, 1) := by decide +kernel
theorem dX9_set_73 : decode cX9_set 73 = .ok (.iadd, 1) := by decide +kernel
theorem dX9_set_74 : decode cX9_set 74 = .ok (.iload_n 2, 1) := by decide +kernel
theorem dX9_set_75 : decode cX9_set 75 = .ok (.iastore, 1) := by decide +kernel
theorem dX9_set_76 : decode cX9_set 76 = .ok (.iload 4, 2) := by decide +kernel
theorem dX9_set_78 : decode cX9_set 78 = .ok (.ireturn, 1) := by decide +kernel
theorem dX9_dikes_0 : decode cX9_dikes 0 = .ok (.iconst 0, 1) := by decide +kernel
theorem dX9_dikes_1 : decode cX9_dikes 1 = .ok (.istore_n 1, 1) := by decide +kernel
theorem dX9_dikes_2 : decode cX9_dikes 2 = .ok (.iconst 0, 1) := by decide +kernel
theorem dX9_dikes_3 : decode cX9_dikes 3 = .ok (.istore_n 2, 1) := by decide +kernel
theorem dX9_dikes_4 : decode cX9_dikes 4 = .ok (.iload_n 2, 1) := by decide +kernel
theorem dX9_dikes_5 : decode cX9_dikes 5 = .ok (.sipush 240, 3) := by decide +kernel
theorem dX9_dikes_8 : decode cX9_dikes 8 = .ok (.if_icmp .ge 22, 3) := by decide +kernel
theorem dX9_dikes_11 : decode cX9_dikes 11 = .ok (.iload_n 1, 1) := by decide +kernel
theorem dX9_dikes_12 : decode cX9_dikes 12 = .ok (.aload_n 0, 1) := by decide +kernel
theorem dX9_dikes_13 : decode cX9_dikes 13 = .ok (.getfield 7, 3) := by decide +kernel
theorem dX9_dikes_16 : decode cX9_dikes 16 = .ok (.sipush 395, 3) := by decide +kernel
theorem dX9_dikes_19 : decode cX9_dikes 19 = .ok (.iload_n 2, 1) := by decide +kernel
theorem dX9_dikes_20 : decode cX9_dikes 20 = .ok (.iadd, 1) := by decide +kernel
theorem dX9_dikes_21 : decode cX9_dikes 21 = .ok (.iaload, 1) := by decide +kernel
theorem dX9_dikes_22 : decode cX9_dikes 22 = .ok (.iadd, 1) := by decide +kernel
theorem dX9_dikes_23 : decode cX9_dikes 23 = .ok (.istore_n 1, 1) := by decide +kernel
theorem dX9_dikes_24 : decode cX9_dikes 24 = .ok (.iinc 2 1, 3) := by decide +kernel
theorem dX9_dikes_27 : decode cX9_dikes 27 = .ok (.goto (-23), 3) := by decide +kernel
theorem dX9_dikes_30 : decode cX9_dikes 30 = .ok (.iload_n 1, 1) := by decide +kernel
theorem dX9_dikes_31 : decode cX9_dikes 31 = .ok (.ireturn, 1) := by decide +kernel
theorem dX9_dike_0 : decode cX9_dike 0 = .ok (.iload_n 1, 1) := by decide +kernel
theorem dX9_dike_1 : decode cX9_dike 1 = .ok (.iload_n 2, 1) := by decide +kernel
theorem dX9_dike_2 : decode cX9_dike 2 = .ok (.invokestatic 58, 3) := by decide +kernel
theorem dX9_dike_5 : decode cX9_dike 5 = .ok (.ifCond .ne 5, 3) := by decide +kernel
theorem dX9_dike_8 : decode cX9_dike 8 = .ok (.iconst (-1), 1) := by decide +kernel
theorem dX9_dike_9 : decode cX9_dike 9 = .ok (.ireturn, 1) := by decide +kernel
theorem dX9_dike_10 : decode cX9_dike 10 = .ok (.bipush 20, 2) := by decide +kernel
theorem dX9_dike_12 : decode cX9_dike 12 = .ok (.iload_n 2, 1) := by decide +kernel
theorem dX9_dike_13 : decode cX9_dike 13 = .ok (.imul, 1) := by decide +kernel
theorem dX9_dike_14 : decode cX9_dike 14 = .ok (.iload_n 1, 1) := by decide +kernel
theorem dX9_dike_15 : decode cX9_dike 15 = .ok (.iadd, 1) := by decide +kernel
theorem dX9_dike_16 : decode cX9_dike 16 = .ok (.istore 4, 2) := by decide +kernel
theorem dX9_dike_18 : decode cX9_dike 18 = .ok (.aload_n 0, 1) := by decide +kernel
theorem dX9_dike_19 : decode cX9_dike 19 = .ok (.iload 4, 2) := by decide +kernel
theorem dX9_dike_21 : decode cX9_dike 21 = .ok (.invokevirtual 142, 3) := by decide +kernel
theorem dX9_dike_24 : decode cX9_dike 24 = .ok (.bipush (-6), 2) := by decide +kernel
theorem dX9_dike_26 : decode cX9_dike 26 = .ok (.if_icmp .ne 27, 3) := by decide +kernel
theorem dX9_dike_29 : decode cX9_dike 29 = .ok (.aload_n 0, 1) := by decide +kernel
theorem dX9_dike_30 : decode cX9_dike 30 = .ok (.getfield 7, 3) := by decide +kernel
theorem dX9_dike_33 : decode cX9_dike 33 = .ok (.sipush 395, 3) := by decide +kernel
theorem dX9_dike_36 : decode cX9_dike 36 = .ok (.iload 4, 2) := by decide +kernel
theorem dX9_dike_38 : decode cX9_dike 38 = .ok (.iadd, 1) := by decide +kernel
theorem dX9_dike_39 : decode cX9_dike 39 = .ok (.iaload, 1) := by decide +kernel
theorem dX9_dike_40 : decode cX9_dike 40 = .ok (.iconst 1, 1) := by decide +kernel
theorem dX9_dike_41 : decode cX9_dike 41 = .ok (.if_icmp .ne 7, 3) := by decide +kernel
theorem dX9_dike_44 : decode cX9_dike 44 = .ok (.iconst 1, 1) := by decide +kernel
theorem dX9_dike_45 : decode cX9_dike 45 = .ok (.goto 4, 3) := by decide +kernel
theorem dX9_dike_48 : decode cX9_dike 48 = .ok (.iconst 0, 1) := by decide +kernel
theorem dX9_dike_49 : decode cX9_dike 49 = .ok (.iload_n 3, 1) := by decide +kernel
theorem dX9_dike_50 : decode cX9_dike 50 = .ok (.if_icmp .ne 6, 3) := by decide +kernel
theorem dX9_dike_53 : decode cX9_dike 53 = .ok (.bipush (-5), 2) := by decide +kernel
theorem dX9_dike_55 : decode cX9_dike 55 = .ok (.ireturn, 1) := by decide +kernel
theorem dX9_dike_56 : decode cX9_dike 56 = .ok (.aload_n 0, 1) := by decide +kernel
theorem dX9_dike_57 : decode cX9_dike 57 = .ok (.invokevirtual 139, 3) := by decide +kernel
theorem dX9_dike_60 : decode cX9_dike 60 = .ok (.aload_n 0, 1) := by decide +kernel
theorem dX9_dike_61 : decode cX9_dike 61 = .ok (.getfield 7, 3) := by decide +kernel
theorem dX9_dike_64 : decode cX9_dike 64 = .ok (.sipush 395, 3) := by decide +kernel
theorem dX9_dike_67 : decode cX9_dike 67 = .ok (.iload 4, 2) := by decide +kernel
theorem dX9_dike_69 : decode cX9_dike 69 = .ok (.iadd, 1) := by decide +kernel
theorem dX9_dike_70 : decode cX9_dike 70 = .ok (.iload_n 3, 1) := by decide +kernel
theorem dX9_dike_71 : decode cX9_dike 71 = .ok (.ifCond .eq 7, 3) := by decide +kernel
theorem dX9_dike_74 : decode cX9_dike 74 = .ok (.iconst 1, 1) := by decide +kernel
theorem dX9_dike_75 : decode cX9_dike 75 = .ok (.goto 4, 3) := by decide +kernel
theorem dX9_dike_78 : decode cX9_dike 78 = .ok (.iconst 0, 1) := by decide +kernel
theorem dX9_dike_79 : decode cX9_dike 79 = .ok (.iastore, 1) := by decide +kernel
theorem dX9_dike_80 : decode cX9_dike 80 = .ok (.aload_n 0, 1) := by decide +kernel
theorem dX9_dike_81 : decode cX9_dike 81 = .ok (.invokevirtual 145, 3) := by decide +kernel
theorem dX9_dike_84 : decode cX9_dike 84 = .ok (.ireturn, 1) := by decide +kernel
theorem dX9_flood_0 : decode cX9_flood 0 = .ok (.iload_n 1, 1) := by decide +kernel
theorem dX9_flood_1 : decode cX9_flood 1 = .ok (.aload_n 0, 1) := by decide +kernel
theorem dX9_flood_2 : decode cX9_flood 2 = .ok (.getfield 7, 3) := by decide +kernel
theorem dX9_flood_5 : decode cX9_flood 5 = .ok (.sipush 1404, 3) := by decide +kernel
theorem dX9_flood_8 : decode cX9_flood 8 = .ok (.iaload, 1) := by decide +kernel
theorem dX9_flood_9 : decode cX9_flood 9 = .ok (.sipush 999, 3) := by decide +kernel
theorem dX9_flood_12 : decode cX9_flood 12 = .ok (.invokestatic 50, 3) := by decide +kernel
theorem dX9_flood_15 : decode cX9_flood 15 = .ok (.ifCond .ne 6, 3) := by decide +kernel
theorem dX9_flood_18 : decode cX9_flood 18 = .ok (.bipush (-2), 2) := by decide +kernel
theorem dX9_flood_20 : decode cX9_flood 20 = .ok (.ireturn, 1) := by decide +kernel
theorem dX9_flood_21 : decode cX9_flood 21 = .ok (.aload_n 0, 1) := by decide +kernel
theorem dX9_flood_22 : decode cX9_flood 22 = .ok (.iload_n 1, 1) := by decide +kernel
theorem dX9_flood_23 : decode cX9_flood 23 = .ok (.invokevirtual 115, 3) := by decide +kernel
theorem dX9_flood_26 : decode cX9_flood 26 = .ok (.iload_n 2, 1) := by decide +kernel
theorem dX9_flood_27 : decode cX9_flood 27 = .ok (.if_icmp .ne 6, 3) := by decide +kernel
theorem dX9_flood_30 : decode cX9_flood 30 = .ok (.bipush (-5), 2) := by decide +kernel
theorem dX9_flood_32 : decode cX9_flood 32 = .ok (.ireturn, 1) := by decide +kernel
theorem dX9_flood_33 : decode cX9_flood 33 = .ok (.iload_n 2, 1) := by decide +kernel
theorem dX9_flood_34 : decode cX9_flood 34 = .ok (.ifCond .eq 19, 3) := by decide +kernel
theorem dX9_flood_37 : decode cX9_flood 37 = .ok (.aload_n 0, 1) := by decide +kernel
theorem dX9_flood_38 : decode cX9_flood 38 = .ok (.getfield 7, 3) := by decide +kernel
theorem dX9_flood_41 : decode cX9_flood 41 = .ok (.sipush 1395, 3) := by decide +kernel
theorem dX9_flood_44 : decode cX9_flood 44 = .ok (.iaload, 1) := by decide +kernel
theorem dX9_flood_45 : decode cX9_flood 45 = .ok (.bipush 8, 2) := by decide +kernel
theorem dX9_flood_47 : decode cX9_flood 47 = .ok (.if_icmp .ne 6, 3) := by decide +kernel
theorem dX9_flood_50 : decode cX9_flood 50 = .ok (.bipush (-4), 2) := by decide +kernel
theorem dX9_flood_52 : decode cX9_flood 52 = .ok (.ireturn, 1) := by decide +kernel
theorem dX9_flood_53 : decode cX9_flood 53 = .ok (.aload_n 0, 1) := by decide +kernel
theorem dX9_flood_54 : decode cX9_flood 54 = .ok (.invokevirtual 139, 3) := by decide +kernel
theorem dX9_flood_57 : decode cX9_flood 57 = .ok (.iload_n 2, 1) := by decide +kernel
theorem dX9_flood_58 : decode cX9_flood 58 = .ok (.ifCond .eq 36, 3) := by decide +kernel
theorem dX9_flood_61 : decode cX9_flood 61 = .ok (.aload_n 0, 1) := by decide +kernel
theorem dX9_flood_62 : decode cX9_flood 62 = .ok (.getfield 7, 3) := by decide +kernel
theorem dX9_flood_65 : decode cX9_flood 65 = .ok (.sipush 1396, 3) := by decide +kernel
theorem dX9_flood_68 : decode cX9_flood 68 = .ok (.aload_n 0, 1) := by decide +kernel
theorem dX9_flood_69 : decode cX9_flood 69 = .ok (.getfield 7, 3) := by decide +kernel
theorem dX9_flood_72 : decode cX9_flood 72 = .ok (.sipush 1395, 3) := by decide +kernel
theorem dX9_flood_75 : decode cX9_flood 75 = .ok (.iaload, 1) := by decide +kernel
theorem dX9_flood_76 : decode cX9_flood 76 = .ok (.iadd, 1) := by decide +kernel
theorem dX9_flood_77 : decode cX9_flood 77 = .ok (.iload_n 1, 1) := by decide +kernel
theorem dX9_flood_78 : decode cX9_flood 78 = .ok (.iastore, 1) := by decide +kernel
theorem dX9_flood_79 : decode cX9_flood 79 = .ok (.aload_n 0, 1) := by decide +kernel
theorem dX9_flood_80 : decode cX9_flood 80 = .ok (.getfield 7, 3) := by decide +kernel
theorem dX9_flood_83 : decode cX9_flood 83 = .ok (.sipush 1395, 3) := by decide +kernel
theorem dX9_flood_86 : decode cX9_flood 86 = .ok (.dup2, 1) := by decide +kernel
theorem dX9_flood_87 : decode cX9_flood 87 = .ok (.iaload, 1) := by decide +kernel
theorem dX9_flood_88 : decode cX9_flood 88 = .ok (.iconst 1, 1) := by decide +kernel
theorem dX9_flood_89 : decode cX9_flood 89 = .ok (.iadd, 1) := by decide +kernel
theorem dX9_flood_90 : decode cX9_flood 90 = .ok (.iastore, 1) := by decide +kernel
theorem dX9_flood_91 : decode cX9_flood 91 = .ok (.goto 106, 3) := by decide +kernel
theorem dX9_flood_94 : decode cX9_flood 94 = .ok (.aload_n 0, 1) := by decide +kernel
theorem dX9_flood_95 : decode cX9_flood 95 = .ok (.getfield 7, 3) := by decide +kernel
theorem dX9_flood_98 : decode cX9_flood 98 = .ok (.sipush 1395, 3) := by decide +kernel
theorem dX9_flood_101 : decode cX9_flood 101 = .ok (.dup2, 1) := by decide +kernel
theorem dX9_flood_102 : decode cX9_flood 102 = .ok (.iaload, 1) := by decide +kernel
theorem dX9_flood_103 : decode cX9_flood 103 = .ok (.iconst 1, 1) := by decide +kernel
theorem dX9_flood_104 : decode cX9_flood 104 = .ok (.isub, 1) := by decide +kernel
theorem dX9_flood_105 : decode cX9_flood 105 = .ok (.iastore, 1) := by decide +kernel
theorem dX9_flood_106 : decode cX9_flood 106 = .ok (.iconst 0, 1) := by decide +kernel
theorem dX9_flood_107 : decode cX9_flood 107 = .ok (.istore_n 3, 1) := by decide +kernel
theorem dX9_flood_108 : decode cX9_flood 108 = .ok (.iconst 0, 1) := by decide +kernel
theorem dX9_flood_109 : decode cX9_flood 109 = .ok (.istore 4, 2) := by decide +kernel
theorem dX9_flood_111 : decode cX9_flood 111 = .ok (.iload 4, 2) := by decide +kernel
theorem dX9_flood_113 : decode cX9_flood 113 = .ok (.aload_n 0, 1) := by decide +kernel
theorem dX9_flood_114 : decode cX9_flood 114 = .ok (.getfield 7, 3) := by decide +kernel
theorem dX9_flood_117 : decode cX9_flood 117 = .ok (.sipush 1395, 3) := by decide +kernel
theorem dX9_flood_120 : decode cX9_flood 120 = .ok (.iaload, 1) := by decide +kernel
theorem dX9_flood_121 : decode cX9_flood 121 = .ok (.if_icmp .ge 76, 3) := by decide +kernel
theorem dX9_flood_124 : decode cX9_flood 124 = .ok (.iload_n 3, 1) := by decide +kernel
theorem dX9_flood_125 : decode cX9_flood 125 = .ok (.ifCond .ne 18, 3) := by decide +kernel
theorem dX9_flood_128 : decode cX9_flood 128 = .ok (.aload_n 0, 1) := by decide +kernel
theorem dX9_flood_129 : decode cX9_flood 129 = .ok (.getfield 7, 3) := by decide +kernel
theorem dX9_flood_132 : decode cX9_flood 132 = .ok (.sipush 1396, 3) := by decide +kernel
theorem dX9_flood_135 : decode cX9_flood 135 = .ok (.iload 4, 2) := by decide +kernel
theorem dX9_flood_137 : decode cX9_flood 137 = .ok (.iadd, 1) := by decide +kernel
theorem dX9_flood_138 : decode cX9_flood 138 = .ok (.iaload, 1) := by decide +kernel
theorem dX9_flood_139 : decode cX9_flood 139 = .ok (.iload_n 1, 1) := by decide +kernel
theorem dX9_flood_140 : decode cX9_flood 140 = .ok (.if_icmp .ne 7, 3) := by decide +kernel
theorem dX9_flood_143 : decode cX9_flood 143 = .ok (.iconst 1, 1) := by decide +kernel
theorem dX9_flood_144 : decode cX9_flood 144 = .ok (.goto 4, 3) := by decide +kernel
theorem dX9_flood_147 : decode cX9_flood 147 = .ok (.iconst 0, 1) := by decide +kernel
theorem dX9_flood_148 : decode cX9_flood 148 = .ok (.istore_n 3, 1) := by decide +kernel
theorem dX9_flood_149 : decode cX9_flood 149 = .ok (.aload_n 0, 1) := by decide +kernel
theorem dX9_flood_150 : decode cX9_flood 150 = .ok (.getfield 7, 3) := by decide +kernel
theorem dX9_flood_153 : decode cX9_flood 153 = .ok (.sipush 1396, 3) := by decide +kernel
theorem dX9_flood_156 : decode cX9_flood 156 = .ok (.iload 4, 2) := by decide +kernel
theorem dX9_flood_158 : decode cX9_flood 158 = .ok (.iadd, 1) := by decide +kernel
theorem dX9_flood_159 : decode cX9_flood 159 = .ok (.iload_n 3, 1) := by decide +kernel
theorem dX9_flood_160 : decode cX9_flood 160 = .ok (.ifCond .eq 19, 3) := by decide +kernel
theorem dX9_flood_163 : decode cX9_flood 163 = .ok (.aload_n 0, 1) := by decide +kernel
theorem dX9_flood_164 : decode cX9_flood 164 = .ok (.getfield 7, 3) := by decide +kernel
theorem dX9_flood_167 : decode cX9_flood 167 = .ok (.sipush 1396, 3) := by decide +kernel
theorem dX9_flood_170 : decode cX9_flood 170 = .ok (.iload 4, 2) := by decide +kernel
theorem dX9_flood_172 : decode cX9_flood 172 = .ok (.iadd, 1) := by decide +kernel
theorem dX9_flood_173 : decode cX9_flood 173 = .ok (.iconst 1, 1) := by decide +kernel
theorem dX9_flood_174 : decode cX9_flood 174 = .ok (.iadd, 1) := by decide +kernel
theorem dX9_flood_175 : decode cX9_flood 175 = .ok (.iaload, 1) := by decide +kernel
theorem dX9_flood_176 : decode cX9_flood 176 = .ok (.goto 14, 3) := by decide +kernel
theorem dX9_flood_179 : decode cX9_flood 179 = .ok (.aload_n 0, 1) := by decide +kernel
theorem dX9_flood_180 : decode cX9_flood 180 = .ok (.getfield 7, 3) := by decide +kernel
theorem dX9_flood_183 : decode cX9_flood 183 = .ok (.sipush 1396, 3) := by decide +kernel
theorem dX9_flood_186 : decode cX9_flood 186 = .ok (.iload 4, 2) := by decide +kernel
theorem dX9_flood_188 : decode cX9_flood 188 = .ok (.iadd, 1) := by decide +kernel
theorem dX9_flood_189 : decode cX9_flood 189 = .ok (.iaload, 1) := by decide +kernel
theorem dX9_flood_190 : decode cX9_flood 190 = .ok (.iastore, 1) := by decide +kernel
theorem dX9_flood_191 : decode cX9_flood 191 = .ok (.iinc 4 1, 3) := by decide +kernel
theorem dX9_flood_194 : decode cX9_flood 194 = .ok (.goto (-83), 3) := by decide +kernel
theorem dX9_flood_197 : decode cX9_flood 197 = .ok (.aload_n 0, 1) := by decide +kernel
theorem dX9_flood_198 : decode cX9_flood 198 = .ok (.getfield 7, 3) := by decide +kernel
theorem dX9_flood_201 : decode cX9_flood 201 = .ok (.sipush 1395, 3) := by decide +kernel
theorem dX9_flood_204 : decode cX9_flood 204 = .ok (.iaload, 1) := by decide +kernel
theorem dX9_flood_205 : decode cX9_flood 205 = .ok (.ireturn, 1) := by decide +kernel
theorem dX9_cut_0 : decode cX9_cut 0 = .ok (.iload_n 1, 1) := by decide +kernel
theorem dX9_cut_1 : decode cX9_cut 1 = .ok (.ifCond .lt 12, 3) := by decide +kernel
theorem dX9_cut_4 : decode cX9_cut 4 = .ok (.aload_n 0, 1) := by decide +kernel
theorem dX9_cut_5 : decode cX9_cut 5 = .ok (.iload_n 1, 1) := by decide +kernel
theorem dX9_cut_6 : decode cX9_cut 6 = .ok (.iconst 0, 1) := by decide +kernel
theorem dX9_cut_7 : decode cX9_cut 7 = .ok (.invokevirtual 133, 3) := by decide +kernel
theorem dX9_cut_10 : decode cX9_cut 10 = .ok (.ifCond .ne 5, 3) := by decide +kernel
theorem dX9_cut_13 : decode cX9_cut 13 = .ok (.iconst (-1), 1) := by decide +kernel
theorem dX9_cut_14 : decode cX9_cut 14 = .ok (.ireturn, 1) := by decide +kernel
theorem dX9_cut_15 : decode cX9_cut 15 = .ok (.aload_n 0, 1) := by decide +kernel
theorem dX9_cut_16 : decode cX9_cut 16 = .ok (.invokevirtual 139, 3) := by decide +kernel
theorem dX9_cut_19 : decode cX9_cut 19 = .ok (.aload_n 0, 1) := by decide +kernel
theorem dX9_cut_20 : decode cX9_cut 20 = .ok (.invokevirtual 136, 3) := by decide +kernel
theorem dX9_cut_23 : decode cX9_cut 23 = .ok (.aload_n 0, 1) := by decide +kernel
theorem dX9_cut_24 : decode cX9_cut 24 = .ok (.getfield 7, 3) := by decide +kernel
theorem dX9_cut_27 : decode cX9_cut 27 = .ok (.iconst 4, 1) := by decide +kernel
theorem dX9_cut_28 : decode cX9_cut 28 = .ok (.iaload, 1) := by decide +kernel
theorem dX9_cut_29 : decode cX9_cut 29 = .ok (.ireturn, 1) := by decide +kernel
theorem dX9_pass_0 : decode cX9_pass 0 = .ok (.iload_n 1, 1) := by decide +kernel
theorem dX9_pass_1 : decode cX9_pass 1 = .ok (.iconst 1, 1) := by decide +kernel
theorem dX9_pass_2 : decode cX9_pass 2 = .ok (.bipush 50, 2) := by decide +kernel
theorem dX9_pass_4 : decode cX9_pass 4 = .ok (.invokestatic 50, 3) := by decide +kernel
theorem dX9_pass_7 : decode cX9_pass 7 = .ok (.ifCond .ne 6, 3) := by decide +kernel
theorem dX9_pass_10 : decode cX9_pass 10 = .ok (.bipush (-2), 2) := by decide +kernel
theorem dX9_pass_12 : decode cX9_pass 12 = .ok (.ireturn, 1) := by decide +kernel
theorem dX9_pass_13 : decode cX9_pass 13 = .ok (.aload_n 0, 1) := by decide +kernel
theorem dX9_pass_14 : decode cX9_pass 14 = .ok (.getfield 7, 3) := by decide +kernel
theorem dX9_pass_17 : decode cX9_pass 17 = .ok (.sipush 1404, 3) := by decide +kernel
theorem dX9_pass_20 : decode cX9_pass 20 = .ok (.iaload, 1) := by decide +kernel
theorem dX9_pass_21 : decode cX9_pass 21 = .ok (.iload_n 1, 1) := by decide +kernel
theorem dX9_pass_22 : decode cX9_pass 22 = .ok (.iadd, 1) := by decide +kernel
theorem dX9_pass_23 : decode cX9_pass 23 = .ok (.sipush 999, 3) := by decide +kernel
theorem dX9_pass_26 : decode cX9_pass 26 = .ok (.if_icmp .le 6, 3) := by decide +kernel
theorem dX9_pass_29 : decode cX9_pass 29 = .ok (.bipush (-4), 2) := by decide +kernel
theorem dX9_pass_31 : decode cX9_pass 31 = .ok (.ireturn, 1) := by decide +kernel
theorem dX9_pass_32 : decode cX9_pass 32 = .ok (.aload_n 0, 1) := by decide +kernel
theorem dX9_pass_33 : decode cX9_pass 33 = .ok (.invokevirtual 139, 3) := by decide +kernel
theorem dX9_pass_36 : decode cX9_pass 36 = .ok (.aload_n 0, 1) := by decide +kernel
theorem dX9_pass_37 : decode cX9_pass 37 = .ok (.getfield 7, 3) := by decide +kernel
theorem dX9_pass_40 : decode cX9_pass 40 = .ok (.sipush 1405, 3) := by decide +kernel
theorem dX9_pass_43 : decode cX9_pass 43 = .ok (.iaload, 1) := by decide +kernel
theorem dX9_pass_44 : decode cX9_pass 44 = .ok (.istore_n 2, 1) := by decide +kernel
theorem dX9_pass_45 : decode cX9_pass 45 = .ok (.iconst 0, 1) := by decide +kernel
theorem dX9_pass_46 : decode cX9_pass 46 = .ok (.istore_n 3, 1) := by decide +kernel
theorem dX9_pass_47 : decode cX9_pass 47 = .ok (.iload_n 3, 1) := by decide +kernel
theorem dX9_pass_48 : decode cX9_pass 48 = .ok (.iload_n 1, 1) := by decide +kernel
theorem dX9_pass_49 : decode cX9_pass 49 = .ok (.if_icmp .ge 15, 3) := by decide +kernel
theorem dX9_pass_52 : decode cX9_pass 52 = .ok (.aload_n 0, 1) := by decide +kernel
theorem dX9_pass_53 : decode cX9_pass 53 = .ok (.invokevirtual 149, 3) := by decide +kernel
theorem dX9_pass_56 : decode cX9_pass 56 = .ok (.istore 4, 2) := by decide +kernel
theorem dX9_pass_58 : decode cX9_pass 58 = .ok (.iinc 3 1, 3) := by decide +kernel
theorem dX9_pass_61 : decode cX9_pass 61 = .ok (.goto (-14), 3) := by decide +kernel
theorem dX9_pass_64 : decode cX9_pass 64 = .ok (.aload_n 0, 1) := by decide +kernel
theorem dX9_pass_65 : decode cX9_pass 65 = .ok (.getfield 7, 3) := by decide +kernel
theorem dX9_pass_68 : decode cX9_pass 68 = .ok (.sipush 1405, 3) := by decide +kernel
theorem dX9_pass_71 : decode cX9_pass 71 = .ok (.iaload, 1) := by decide +kernel
theorem dX9_pass_72 : decode cX9_pass 72 = .ok (.iload_n 2, 1) := by decide +kernel
theorem dX9_pass_73 : decode cX9_pass 73 = .ok (.isub, 1) := by decide +kernel
theorem dX9_pass_74 : decode cX9_pass 74 = .ok (.ireturn, 1) := by decide +kernel
theorem dX9_cell_0 : decode cX9_cell 0 = .ok (.iload_n 1, 1) := by decide +kernel
theorem dX9_cell_1 : decode cX9_cell 1 = .ok (.iload_n 2, 1) := by decide +kernel
theorem dX9_cell_2 : decode cX9_cell 2 = .ok (.invokestatic 58, 3) := by decide +kernel
theorem dX9_cell_5 : decode cX9_cell 5 = .ok (.ifCond .ne 5, 3) := by decide +kernel
theorem dX9_cell_8 : decode cX9_cell 8 = .ok (.iconst (-1), 1) := by decide +kernel
theorem dX9_cell_9 : decode cX9_cell 9 = .ok (.ireturn, 1) := by decide +kernel
theorem dX9_cell_10 : decode cX9_cell 10 = .ok (.bipush 20, 2) := by decide +kernel
theorem dX9_cell_12 : decode cX9_cell 12 = .ok (.iload_n 2, 1) := by decide +kernel
theorem dX9_cell_13 : decode cX9_cell 13 = .ok (.imul, 1) := by decide +kernel
theorem dX9_cell_14 : decode cX9_cell 14 = .ok (.iload_n 1, 1) := by decide +kernel
theorem dX9_cell_15 : decode cX9_cell 15 = .ok (.iadd, 1) := by decide +kernel
theorem dX9_cell_16 : decode cX9_cell 16 = .ok (.istore 4, 2) := by decide +kernel
theorem dX9_cell_18 : decode cX9_cell 18 = .ok (.iload_n 3, 1) := by decide +kernel
theorem dX9_cell_19 : decode cX9_cell 19 = .ok (.tableswitch 72 0 3 #[29, 36, 48, 60], 29) := by decide +kernel
theorem dX9_cell_48 : decode cX9_cell 48 = .ok (.aload_n 0, 1) := by decide +kernel
theorem dX9_cell_49 : decode cX9_cell 49 = .ok (.iload 4, 2) := by decide +kernel
theorem dX9_cell_51 : decode cX9_cell 51 = .ok (.invokevirtual 142, 3) := by decide +kernel
theorem dX9_cell_54 : decode cX9_cell 54 = .ok (.ireturn, 1) := by decide +kernel
theorem dX9_cell_55 : decode cX9_cell 55 = .ok (.aload_n 0, 1) := by decide +kernel
theorem dX9_cell_56 : decode cX9_cell 56 = .ok (.getfield 7, 3) := by decide +kernel
theorem dX9_cell_59 : decode cX9_cell 59 = .ok (.sipush 155, 3) := by decide +kernel
theorem dX9_cell_62 : decode cX9_cell 62 = .ok (.iload 4, 2) := by decide +kernel
theorem dX9_cell_64 : decode cX9_cell 64 = .ok (.iadd, 1) := by decide +kernel
theorem dX9_cell_65 : decode cX9_cell 65 = .ok (.iaload, 1) := by decide +kernel
theorem dX9_cell_66 : decode cX9_cell 66 = .ok (.ireturn, 1) := by decide +kernel
theorem dX9_cell_67 : decode cX9_cell 67 = .ok (.aload_n 0, 1) := by decide +kernel
theorem dX9_cell_68 : decode cX9_cell 68 = .ok (.getfield 7, 3) := by decide +kernel
theorem dX9_cell_71 : decode cX9_cell 71 = .ok (.sipush 395, 3) := by decide +kernel
theorem dX9_cell_74 : decode cX9_cell 74 = .ok (.iload 4, 2) := by decide +kernel
theorem dX9_cell_76 : decode cX9_cell 76 = .ok (.iadd, 1) := by decide +kernel
theorem dX9_cell_77 : decode cX9_cell 77 = .ok (.iaload, 1) := by decide +kernel
theorem dX9_cell_78 : decode cX9_cell 78 = .ok (.ireturn, 1) := by decide +kernel
theorem dX9_cell_79 : decode cX9_cell 79 = .ok (.aload_n 0, 1) := by decide +kernel
theorem dX9_cell_80 : decode cX9_cell 80 = .ok (.getfield 7, 3) := by decide +kernel
theorem dX9_cell_83 : decode cX9_cell 83 = .ok (.sipush 1115, 3) := by decide +kernel
theorem dX9_cell_86 : decode cX9_cell 86 = .ok (.iload 4, 2) := by decide +kernel
theorem dX9_cell_88 : decode cX9_cell 88 = .ok (.iadd, 1) := by decide +kernel
theorem dX9_cell_89 : decode cX9_cell 89 = .ok (.iaload, 1) := by decide +kernel
theorem dX9_cell_90 : decode cX9_cell 90 = .ok (.ireturn, 1) := by decide +kernel
theorem dX9_cell_91 : decode cX9_cell 91 = .ok (.bipush (-2), 2) := by decide +kernel
theorem dX9_cell_93 : decode cX9_cell 93 = .ok (.ireturn, 1) := by decide +kernel
theorem dX9_course_0 : decode cX9_course 0 = .ok (.iload_n 1, 1) := by decide +kernel
theorem dX9_course_1 : decode cX9_course 1 = .ok (.iconst 0, 1) := by decide +kernel
theorem dX9_course_2 : decode cX9_course 2 = .ok (.aload_n 0, 1) := by decide +kernel
theorem dX9_course_3 : decode cX9_course 3 = .ok (.getfield 7, 3) := by decide +kernel
theorem dX9_course_6 : decode cX9_course 6 = .ok (.iconst 4, 1) := by decide +kernel
theorem dX9_course_7 : decode cX9_course 7 = .ok (.iaload, 1) := by decide +kernel
theorem dX9_course_8 : decode cX9_course 8 = .ok (.iconst 1, 1) := by decide +kernel
theorem dX9_course_9 : decode cX9_course 9 = .ok (.isub, 1) := by decide +kernel
theorem dX9_course_10 : decode cX9_course 10 = .ok (.invokestatic 50, 3) := by decide +kernel
theorem dX9_course_13 : decode cX9_course 13 = .ok (.ifCond .ne 5, 3) := by decide +kernel
theorem dX9_course_16 : decode cX9_course 16 = .ok (.iconst (-1), 1) := by decide +kernel
theorem dX9_course_17 : decode cX9_course 17 = .ok (.ireturn, 1) := by decide +kernel
theorem dX9_course_18 : decode cX9_course 18 = .ok (.iload_n 2, 1) := by decide +kernel
theorem dX9_course_19 : decode cX9_course 19 = .ok (.tableswitch 72 0 2 #[25, 37, 49], 25) := by decide +kernel
theorem dX9_course_44 : decode cX9_course 44 = .ok (.aload_n 0, 1) := by decide +kernel
theorem dX9_course_45 : decode cX9_course 45 = .ok (.getfield 7, 3) := by decide +kernel
theorem dX9_course_48 : decode cX9_course 48 = .ok (.iconst 5, 1) := by decide +kernel
theorem dX9_course_49 : decode cX9_course 49 = .ok (.iload_n 1, 1) := by decide +kernel
theorem dX9_course_50 : decode cX9_course 50 = .ok (.iadd, 1) := by decide +kernel
theorem dX9_course_51 : decode cX9_course 51 = .ok (.iaload, 1) := by decide +kernel
theorem dX9_course_52 : decode cX9_course 52 = .ok (.bipush 20, 2) := by decide +kernel
theorem dX9_course_54 : decode cX9_course 54 = .ok (.irem, 1) := by decide +kernel
theorem dX9_course_55 : decode cX9_course 55 = .ok (.ireturn, 1) := by decide +kernel
theorem dX9_course_56 : decode cX9_course 56 = .ok (.aload_n 0, 1) := by decide +kernel
theorem dX9_course_57 : decode cX9_course 57 = .ok (.getfield 7, 3) := by decide +kernel
theorem dX9_course_60 : decode cX9_course 60 = .ok (.iconst 5, 1) := by decide +kernel
theorem dX9_course_61 : decode cX9_course 61 = .ok (.iload_n 1, 1) := by decide +kernel
theorem dX9_course_62 : decode cX9_course 62 = .ok (.iadd, 1) := by decide +kernel
theorem dX9_course_63 : decode cX9_course 63 = .ok (.iaload, 1) := by decide +kernel
theorem dX9_course_64 : decode cX9_course 64 = .ok (.bipush 20, 2) := by decide +kernel
theorem dX9_course_66 : decode cX9_course 66 = .ok (.idiv, 1) := by decide +kernel
theorem dX9_course_67 : decode cX9_course 67 = .ok (.ireturn, 1) := by decide +kernel
theorem dX9_course_68 : decode cX9_course 68 = .ok (.iload_n 1, 1) := by decide +kernel
theorem dX9_course_69 : decode cX9_course 69 = .ok (.aload_n 0, 1) := by decide +kernel
theorem dX9_course_70 : decode cX9_course 70 = .ok (.getfield 7, 3) := by decide +kernel
theorem dX9_course_73 : decode cX9_course 73 = .ok (.iconst 4, 1) := by decide +kernel
theorem dX9_course_74 : decode cX9_course 74 = .ok (.iaload, 1) := by decide +kernel
theorem dX9_course_75 : decode cX9_course 75 = .ok (.iconst 1, 1) := by decide +kernel
theorem dX9_course_76 : decode cX9_course 76 = .ok (.isub, 1) := by decide +kernel
theorem dX9_course_77 : decode cX9_course 77 = .ok (.if_icmp .ne 8, 3) := by decide +kernel
theorem dX9_course_80 : decode cX9_course 80 = .ok (.bipush (-6), 2) := by decide +kernel
theorem dX9_course_82 : decode cX9_course 82 = .ok (.goto 8, 3) := by decide +kernel
theorem dX9_course_85 : decode cX9_course 85 = .ok (.aload_n 0, 1) := by decide +kernel
theorem dX9_course_86 : decode cX9_course 86 = .ok (.iload_n 1, 1) := by decide +kernel
theorem dX9_course_87 : decode cX9_course 87 = .ok (.invokevirtual 65, 3) := by decide +kernel
theorem dX9_course_90 : decode cX9_course 90 = .ok (.ireturn, 1) := by decide +kernel
theorem dX9_course_91 : decode cX9_course 91 = .ok (.bipush (-2), 2) := by decide +kernel
theorem dX9_course_93 : decode cX9_course 93 = .ok (.ireturn, 1) := by decide +kernel
theorem dX9_bend_0 : decode cX9_bend 0 = .ok (.aload_n 0, 1) := by decide +kernel
theorem dX9_bend_1 : decode cX9_bend 1 = .ok (.invokevirtual 112, 3) := by decide +kernel
theorem dX9_bend_4 : decode cX9_bend 4 = .ok (.iload_n 1, 1) := by decide +kernel
theorem dX9_bend_5 : decode cX9_bend 5 = .ok (.iconst 0, 1) := by decide +kernel
theorem dX9_bend_6 : decode cX9_bend 6 = .ok (.aload_n 0, 1) := by decide +kernel
theorem dX9_bend_7 : decode cX9_bend 7 = .ok (.getfield 62, 3) := by decide +kernel
theorem dX9_bend_10 : decode cX9_bend 10 = .ok (.iconst 1, 1) := by decide +kernel
theorem dX9_bend_11 : decode cX9_bend 11 = .ok (.isub, 1) := by decide +kernel
theorem dX9_bend_12 : decode cX9_bend 12 = .ok (.invokestatic 50, 3) := by decide +kernel
theorem dX9_bend_15 : decode cX9_bend 15 = .ok (.ifCond .ne 5, 3) := by decide +kernel
theorem dX9_bend_18 : decode cX9_bend 18 = .ok (.iconst (-1), 1) := by decide +kernel
theorem dX9_bend_19 : decode cX9_bend 19 = .ok (.ireturn, 1) := by decide +kernel
theorem dX9_bend_20 : decode cX9_bend 20 = .ok (.iload_n 2, 1) := by decide +kernel
theorem dX9_bend_21 : decode cX9_bend 21 = .ok (.tableswitch 106 0 5 #[39, 46, 53, 59, 73, 92], 39) := by decide +kernel
theorem dX9_bend_60 : decode cX9_bend 60 = .ok (.aload_n 0, 1) := by decide +kernel
theorem dX9_bend_61 : decode cX9_bend 61 = .ok (.getfield 29, 3) := by decide +kernel
theorem dX9_bend_64 : decode cX9_bend 64 = .ok (.iload_n 1, 1) := by decide +kernel
theorem dX9_bend_65 : decode cX9_bend 65 = .ok (.iaload, 1) := by decide +kernel
theorem dX9_bend_66 : decode cX9_bend 66 = .ok (.ireturn, 1) := by decide +kernel
theorem dX9_bend_67 : decode cX9_bend 67 = .ok (.aload_n 0, 1) := by decide +kernel
theorem dX9_bend_68 : decode cX9_bend 68 = .ok (.getfield 32, 3) := by decide +kernel
theorem dX9_bend_71 : decode cX9_bend 71 = .ok (.iload_n 1, 1) := by decide +kernel
theorem dX9_bend_72 : decode cX9_bend 72 = .ok (.iaload, 1) := by decide +kernel
theorem dX9_bend_73 : decode cX9_bend 73 = .ok (.ireturn, 1) := by decide +kernel
theorem dX9_bend_74 : decode cX9_bend 74 = .ok (.aload_n 0, 1) := by decide +kernel
theorem dX9_bend_75 : decode cX9_bend 75 = .ok (.iload_n 1, 1) := by decide +kernel
theorem dX9_bend_76 : decode cX9_bend 76 = .ok (.invokevirtual 69, 3) := by decide +kernel
theorem dX9_bend_79 : decode cX9_bend 79 = .ok (.ireturn, 1) := by decide +kernel
theorem dX9_bend_80 : decode cX9_bend 80 = .ok (.aload_n 0, 1) := by decide +kernel
theorem dX9_bend_81 : decode cX9_bend 81 = .ok (.iload_n 1, 1) := by decide +kernel
theorem dX9_bend_82 : decode cX9_bend 82 = .ok (.invokevirtual 79, 3) := by decide +kernel
theorem dX9_bend_85 : decode cX9_bend 85 = .ok (.ifCond .eq 7, 3) := by decide +kernel
theorem dX9_bend_88 : decode cX9_bend 88 = .ok (.iconst 1, 1) := by decide +kernel
theorem dX9_bend_89 : decode cX9_bend 89 = .ok (.goto 4, 3) := by decide +kernel
theorem dX9_bend_92 : decode cX9_bend 92 = .ok (.iconst 0, 1) := by decide +kernel
theorem dX9_bend_93 : decode cX9_bend 93 = .ok (.ireturn, 1) := by decide +kernel
theorem dX9_bend_94 : decode cX9_bend 94 = .ok (.aload_n 0, 1) := by decide +kernel
theorem dX9_bend_95 : decode cX9_bend 95 = .ok (.iload_n 1, 1) := by decide +kernel
theorem dX9_bend_96 : decode cX9_bend 96 = .ok (.invokevirtual 79, 3) := by decide +kernel
theorem dX9_bend_99 : decode cX9_bend 99 = .ok (.ifCond .eq 8, 3) := by decide +kernel
theorem dX9_bend_102 : decode cX9_bend 102 = .ok (.bipush (-6), 2) := by decide +kernel
theorem dX9_bend_104 : decode cX9_bend 104 = .ok (.goto 8, 3) := by decide +kernel
theorem dX9_bend_107 : decode cX9_bend 107 = .ok (.aload_n 0, 1) := by decide +kernel
theorem dX9_bend_108 : decode cX9_bend 108 = .ok (.iload_n 1, 1) := by decide +kernel
theorem dX9_bend_109 : decode cX9_bend 109 = .ok (.invokevirtual 83, 3) := by decide +kernel
theorem dX9_bend_112 : decode cX9_bend 112 = .ok (.ireturn, 1) := by decide +kernel
theorem dX9_bend_113 : decode cX9_bend 113 = .ok (.aload_n 0, 1) := by decide +kernel
theorem dX9_bend_114 : decode cX9_bend 114 = .ok (.iload_n 1, 1) := by decide +kernel
theorem dX9_bend_115 : decode cX9_bend 115 = .ok (.invokevirtual 118, 3) := by decide +kernel
theorem dX9_bend_118 : decode cX9_bend 118 = .ok (.ifCond .eq 7, 3) := by decide +kernel
theorem dX9_bend_121 : decode cX9_bend 121 = .ok (.iconst 1, 1) := by decide +kernel
theorem dX9_bend_122 : decode cX9_bend 122 = .ok (.goto 4, 3) := by decide +kernel
theorem dX9_bend_125 : decode cX9_bend 125 = .ok (.iconst 0, 1) := by decide +kernel
theorem dX9_bend_126 : decode cX9_bend 126 = .ok (.ireturn, 1) := by decide +kernel
theorem dX9_bend_127 : decode cX9_bend 127 = .ok (.bipush (-2), 2) := by decide +kernel
theorem dX9_bend_129 : decode cX9_bend 129 = .ok (.ireturn, 1) := by decide +kernel
theorem dX9_neck_0 : decode cX9_neck 0 = .ok (.iload_n 1, 1) := by decide +kernel
theorem dX9_neck_1 : decode cX9_neck 1 = .ok (.ifCond .lt 12, 3) := by decide +kernel
theorem dX9_neck_4 : decode cX9_neck 4 = .ok (.aload_n 0, 1) := by decide +kernel
theorem dX9_neck_5 : decode cX9_neck 5 = .ok (.iload_n 1, 1) := by decide +kernel
theorem dX9_neck_6 : decode cX9_neck 6 = .ok (.iconst 0, 1) := by decide +kernel
theorem dX9_neck_7 : decode cX9_neck 7 = .ok (.invokevirtual 133, 3) := by decide +kernel
theorem dX9_neck_10 : decode cX9_neck 10 = .ok (.ifCond .ne 5, 3) := by decide +kernel
theorem dX9_neck_13 : decode cX9_neck 13 = .ok (.iconst (-1), 1) := by decide +kernel
theorem dX9_neck_14 : decode cX9_neck 14 = .ok (.ireturn, 1) := by decide +kernel
theorem dX9_neck_15 : decode cX9_neck 15 = .ok (.iload_n 2, 1) := by decide +kernel
theorem dX9_neck_16 : decode cX9_neck 16 = .ok (.ifCond .ne 10, 3) := by decide +kernel
theorem dX9_neck_19 : decode cX9_neck 19 = .ok (.aload_n 0, 1) := by decide +kernel
theorem dX9_neck_20 : decode cX9_neck 20 = .ok (.getfield 97, 3) := by decide +kernel
theorem dX9_neck_23 : decode cX9_neck 23 = .ok (.goto 55, 3) := by decide +kernel
theorem dX9_neck_26 : decode cX9_neck 26 = .ok (.iload_n 2, 1) := by decide +kernel
theorem dX9_neck_27 : decode cX9_neck 27 = .ok (.iconst 1, 1) := by decide +kernel
theorem dX9_neck_28 : decode cX9_neck 28 = .ok (.if_icmp .ne 10, 3) := by decide +kernel
theorem dX9_neck_31 : decode cX9_neck 31 = .ok (.aload_n 0, 1) := by decide +kernel
theorem dX9_neck_32 : decode cX9_neck 32 = .ok (.getfield 106, 3) := by decide +kernel
theorem dX9_neck_35 : decode cX9_neck 35 = .ok (.goto 43, 3) := by decide +kernel
theorem dX9_neck_38 : decode cX9_neck 38 = .ok (.iload_n 2, 1) := by decide +kernel
theorem dX9_neck_39 : decode cX9_neck 39 = .ok (.iconst 2, 1) := by decide +kernel
theorem dX9_neck_40 : decode cX9_neck 40 = .ok (.if_icmp .ne 36, 3) := by decide +kernel
theorem dX9_neck_43 : decode cX9_neck 43 = .ok (.aload_n 0, 1) := by decide +kernel
theorem dX9_neck_44 : decode cX9_neck 44 = .ok (.getfield 7, 3) := by decide +kernel
theorem dX9_neck_47 : decode cX9_neck 47 = .ok (.aload_n 0, 1) := by decide +kernel
theorem dX9_neck_48 : decode cX9_neck 48 = .ok (.getfield 7, 3) := by decide +kernel
theorem dX9_neck_51 : decode cX9_neck 51 = .ok (.iconst 5, 1) := by decide +kernel
theorem dX9_neck_52 : decode cX9_neck 52 = .ok (.aload_n 0, 1) := by decide +kernel
theorem dX9_neck_53 : decode cX9_neck 53 = .ok (.getfield 97, 3) := by decide +kernel
theorem dX9_neck_56 : decode cX9_neck 56 = .ok (.iadd, 1) := by decide +kernel
theorem dX9_neck_57 : decode cX9_neck 57 = .ok (.iaload, 1) := by decide +kernel
theorem dX9_neck_58 : decode cX9_neck 58 = .ok (.aload_n 0, 1) := by decide +kernel
theorem dX9_neck_59 : decode cX9_neck 59 = .ok (.getfield 7, 3) := by decide +kernel
theorem dX9_neck_62 : decode cX9_neck 62 = .ok (.iconst 5, 1) := by decide +kernel
theorem dX9_neck_63 : decode cX9_neck 63 = .ok (.aload_n 0, 1) := by decide +kernel
theorem dX9_neck_64 : decode cX9_neck 64 = .ok (.getfield 106, 3) := by decide +kernel
theorem dX9_neck_67 : decode cX9_neck 67 = .ok (.iadd, 1) := by decide +kernel
theorem dX9_neck_68 : decode cX9_neck 68 = .ok (.iaload, 1) := by decide +kernel
theorem dX9_neck_69 : decode cX9_neck 69 = .ok (.invokestatic 103, 3) := by decide +kernel
theorem dX9_neck_72 : decode cX9_neck 72 = .ok (.iaload, 1) := by decide +kernel
theorem dX9_neck_73 : decode cX9_neck 73 = .ok (.goto 5, 3) := by decide +kernel
theorem dX9_neck_76 : decode cX9_neck 76 = .ok (.bipush (-2), 2) := by decide +kernel
theorem dX9_neck_78 : decode cX9_neck 78 = .ok (.ireturn, 1) := by decide +kernel
theorem dX9_oxbow_0 : decode cX9_oxbow 0 = .ok (.iload_n 1, 1) := by decide +kernel
theorem dX9_oxbow_1 : decode cX9_oxbow 1 = .ok (.iconst 0, 1) := by decide +kernel
theorem dX9_oxbow_2 : decode cX9_oxbow 2 = .ok (.aload_n 0, 1) := by decide +kernel
theorem dX9_oxbow_3 : decode cX9_oxbow 3 = .ok (.getfield 7, 3) := by decide +kernel
theorem dX9_oxbow_6 : decode cX9_oxbow 6 = .ok (.sipush 1355, 3) := by decide +kernel
theorem dX9_oxbow_9 : decode cX9_oxbow 9 = .ok (.iaload, 1) := by decide +kernel
theorem dX9_oxbow_10 : decode cX9_oxbow 10 = .ok (.iconst 1, 1) := by decide +kernel
theorem dX9_oxbow_11 : decode cX9_oxbow 11 = .ok (.isub, 1) := by decide +kernel
theorem dX9_oxbow_12 : decode cX9_oxbow 12 = .ok (.invokestatic 50, 3) := by decide +kernel
theorem dX9_oxbow_15 : decode cX9_oxbow 15 = .ok (.ifCond .ne 5, 3) := by decide +kernel
theorem dX9_oxbow_18 : decode cX9_oxbow 18 = .ok (.iconst (-1), 1) := by decide +kernel
theorem dX9_oxbow_19 : decode cX9_oxbow 19 = .ok (.ireturn, 1) := by decide +kernel
theorem dX9_oxbow_20 : decode cX9_oxbow 20 = .ok (.aload_n 0, 1) := by decide +kernel
theorem dX9_oxbow_21 : decode cX9_oxbow 21 = .ok (.getfield 7, 3) := by decide +kernel
theorem dX9_oxbow_24 : decode cX9_oxbow 24 = .ok (.sipush 1356, 3) := by decide +kernel
theorem dX9_oxbow_27 : decode cX9_oxbow 27 = .ok (.iconst 3, 1) := by decide +kernel
theorem dX9_oxbow_28 : decode cX9_oxbow 28 = .ok (.iload_n 1, 1) := by decide +kernel
theorem dX9_oxbow_29 : decode cX9_oxbow 29 = .ok (.imul, 1) := by decide +kernel
theorem dX9_oxbow_30 : decode cX9_oxbow 30 = .ok (.iadd, 1) := by decide +kernel
theorem dX9_oxbow_31 : decode cX9_oxbow 31 = .ok (.iconst 2, 1) := by decide +kernel
theorem dX9_oxbow_32 : decode cX9_oxbow 32 = .ok (.iadd, 1) := by decide +kernel
theorem dX9_oxbow_33 : decode cX9_oxbow 33 = .ok (.iaload, 1) := by decide +kernel
theorem dX9_oxbow_34 : decode cX9_oxbow 34 = .ok (.istore_n 3, 1) := by decide +kernel
theorem dX9_oxbow_35 : decode cX9_oxbow 35 = .ok (.iload_n 2, 1) := by decide +kernel
theorem dX9_oxbow_36 : decode cX9_oxbow 36 = .ok (.iconst 2, 1) := by decide +kernel
theorem dX9_oxbow_37 : decode cX9_oxbow 37 = .ok (.if_icmp .ne 10, 3) := by decide +kernel
theorem dX9_oxbow_40 : decode cX9_oxbow 40 = .ok (.iload_n 3, 1) := by decide +kernel
theorem dX9_oxbow_41 : decode cX9_oxbow 41 = .ok (.bipush 20, 2) := by decide +kernel
theorem dX9_oxbow_43 : decode cX9_oxbow 43 = .ok (.irem, 1) := by decide +kernel
theorem dX9_oxbow_44 : decode cX9_oxbow 44 = .ok (.goto 43, 3) := by decide +kernel
theorem dX9_oxbow_47 : decode cX9_oxbow 47 = .ok (.iload_n 2, 1) := by decide +kernel
theorem dX9_oxbow_48 : decode cX9_oxbow 48 = .ok (.iconst 3, 1) := by decide +kernel
theorem dX9_oxbow_49 : decode cX9_oxbow 49 = .ok (.if_icmp .ne 10, 3) := by decide +kernel
theorem dX9_oxbow_52 : decode cX9_oxbow 52 = .ok (.iload_n 3, 1) := by decide +kernel
theorem dX9_oxbow_53 : decode cX9_oxbow 53 = .ok (.bipush 20, 2) := by decide +kernel
theorem dX9_oxbow_55 : decode cX9_oxbow 55 = .ok (.idiv, 1) := by decide +kernel
theorem dX9_oxbow_56 : decode cX9_oxbow 56 = .ok (.goto 31, 3) := by decide +kernel
theorem dX9_oxbow_59 : decode cX9_oxbow 59 = .ok (.iload_n 2, 1) := by decide +kernel
theorem dX9_oxbow_60 : decode cX9_oxbow 60 = .ok (.iconst 0, 1) := by decide +kernel
theorem dX9_oxbow_61 : decode cX9_oxbow 61 = .ok (.iconst 1, 1) := by decide +kernel
theorem dX9_oxbow_62 : decode cX9_oxbow 62 = .ok (.invokestatic 50, 3) := by decide +kernel
theorem dX9_oxbow_65 : decode cX9_oxbow 65 = .ok (.ifCond .eq 20, 3) := by decide +kernel
theorem dX9_oxbow_68 : decode cX9_oxbow 68 = .ok (.aload_n 0, 1) := by decide +kernel
theorem dX9_oxbow_69 : decode cX9_oxbow 69 = .ok (.getfield 7, 3) := by decide +kernel
theorem dX9_oxbow_72 : decode cX9_oxbow 72 = .ok (.sipush 1356, 3) := by decide +kernel
theorem dX9_oxbow_75 : decode cX9_oxbow 75 = .ok (.iconst 3, 1) := by decide +kernel
theorem dX9_oxbow_76 : decode cX9_oxbow 76 = .ok (.iload_n 1, 1) := by decide +kernel
theorem dX9_oxbow_77 : decode cX9_oxbow 77 = .ok (.imul, 1) := by decide +kernel
theorem dX9_oxbow_78 : decode cX9_oxbow 78 = .ok (.iadd, 1) := by decide +kernel
theorem dX9_oxbow_79 : decode cX9_oxbow 79 = .ok (.iload_n 2, 1) := by decide +kernel
theorem dX9_oxbow_80 : decode cX9_oxbow 80 = .ok (.iadd, 1) := by decide +kernel
theorem dX9_oxbow_81 : decode cX9_oxbow 81 = .ok (.iaload, 1) := by decide +kernel
theorem dX9_oxbow_82 : decode cX9_oxbow 82 = .ok (.goto 5, 3) := by decide +kernel
theorem dX9_oxbow_85 : decode cX9_oxbow 85 = .ok (.bipush (-2), 2) := by decide +kernel
theorem dX9_oxbow_87 : decode cX9_oxbow 87 = .ok (.ireturn, 1) := by decide +kernel
theorem dX9_firm_0 : decode cX9_firm 0 = .ok (.aload_n 0, 1) := by decide +kernel
theorem dX9_firm_1 : decode cX9_firm 1 = .ok (.invokevirtual 112, 3) := by decide +kernel
theorem dX9_firm_4 : decode cX9_firm 4 = .ok (.iconst 0, 1) := by decide +kernel
theorem dX9_firm_5 : decode cX9_firm 5 = .ok (.istore_n 1, 1) := by decide +kernel
theorem dX9_firm_6 : decode cX9_firm 6 = .ok (.iconst 0, 1) := by decide +kernel
theorem dX9_firm_7 : decode cX9_firm 7 = .ok (.istore_n 2, 1) := by decide +kernel
theorem dX9_firm_8 : decode cX9_firm 8 = .ok (.iload_n 2, 1) := by decide +kernel
theorem dX9_firm_9 : decode cX9_firm 9 = .ok (.aload_n 0, 1) := by decide +kernel
theorem dX9_firm_10 : decode cX9_firm 10 = .ok (.getfield 62, 3) := by decide +kernel
theorem dX9_firm_13 : decode cX9_firm 13 = .ok (.if_icmp .ge 25, 3) := by decide +kernel
theorem dX9_firm_16 : decode cX9_firm 16 = .ok (.iload_n 1, 1) := by decide +kernel
theorem dX9_firm_17 : decode cX9_firm 17 = .ok (.aload_n 0, 1) := by decide +kernel
theorem dX9_firm_18 : decode cX9_firm 18 = .ok (.iload_n 2, 1) := by decide +kernel
theorem dX9_firm_19 : decode cX9_firm 19 = .ok (.invokevirtual 79, 3) := by decide +kernel
theorem dX9_firm_22 : decode cX9_firm 22 = .ok (.ifCond .eq 7, 3) := by decide +kernel
theorem dX9_firm_25 : decode cX9_firm 25 = .ok (.iconst 1, 1) := by decide +kernel
theorem dX9_firm_26 : decode cX9_firm 26 = .ok (.goto 4, 3) := by decide +kernel
theorem dX9_firm_29 : decode cX9_firm 29 = .ok (.iconst 0, 1) := by decide +kernel
theorem dX9_firm_30 : decode cX9_firm 30 = .ok (.iadd, 1) := by decide +kernel
theorem dX9_firm_31 : decode cX9_firm 31 = .ok (.istore_n 1, 1) := by decide +kernel
theorem dX9_firm_32 : decode cX9_firm 32 = .ok (.iinc 2 1, 3) := by decide +kernel
theorem dX9_firm_35 : decode cX9_firm 35 = .ok (.goto (-27), 3) := by decide +kernel
theorem dX9_firm_38 : decode cX9_firm 38 = .ok (.iload_n 1, 1) := by decide +kernel
theorem dX9_firm_39 : decode cX9_firm 39 = .ok (.ireturn, 1) := by decide +kernel
theorem dX9_apart_0 : decode cX9_apart 0 = .ok (.iload_n 0, 1) := by decide +kernel
theorem dX9_apart_1 : decode cX9_apart 1 = .ok (.iload_n 1, 1) := by decide +kernel
theorem dX9_apart_2 : decode cX9_apart 2 = .ok (.if_icmp .le 9, 3) := by decide +kernel
theorem dX9_apart_5 : decode cX9_apart 5 = .ok (.iload_n 0, 1) := by decide +kernel
theorem dX9_apart_6 : decode cX9_apart 6 = .ok (.iload_n 1, 1) := by decide +kernel
theorem dX9_apart_7 : decode cX9_apart 7 = .ok (.isub, 1) := by decide +kernel
theorem dX9_apart_8 : decode cX9_apart 8 = .ok (.goto 6, 3) := by decide +kernel
theorem dX9_apart_11 : decode cX9_apart 11 = .ok (.iload_n 1, 1) := by decide +kernel
theorem dX9_apart_12 : decode cX9_apart 12 = .ok (.iload_n 0, 1) := by decide +kernel
theorem dX9_apart_13 : decode cX9_apart 13 = .ok (.isub, 1) := by decide +kernel
theorem dX9_apart_14 : decode cX9_apart 14 = .ok (.ireturn, 1) := by decide +kernel
theorem dX9_winding_0 : decode cX9_winding 0 = .ok (.aload_n 0, 1) := by decide +kernel
theorem dX9_winding_1 : decode cX9_winding 1 = .ok (.getfield 7, 3) := by decide +kernel
theorem dX9_winding_4 : decode cX9_winding 4 = .ok (.iconst 5, 1) := by decide +kernel
theorem dX9_winding_5 : decode cX9_winding 5 = .ok (.iaload, 1) := by decide +kernel
theorem dX9_winding_6 : decode cX9_winding 6 = .ok (.istore_n 1, 1) := by decide +kernel
theorem dX9_winding_7 : decode cX9_winding 7 = .ok (.aload_n 0, 1) := by decide +kernel
theorem dX9_winding_8 : decode cX9_winding 8 = .ok (.getfield 7, 3) := by decide +kernel
theorem dX9_winding_11 : decode cX9_winding 11 = .ok (.iconst 5, 1) := by decide +kernel
theorem dX9_winding_12 : decode cX9_winding 12 = .ok (.aload_n 0, 1) := by decide +kernel
theorem dX9_winding_13 : decode cX9_winding 13 = .ok (.getfield 7, 3) := by decide +kernel
theorem dX9_winding_16 : decode cX9_winding 16 = .ok (.iconst 4, 1) := by decide +kernel
theorem dX9_winding_17 : decode cX9_winding 17 = .ok (.iaload, 1) := by decide +kernel
theorem dX9_winding_18 : decode cX9_winding 18 = .ok (.iadd, 1) := by decide +kernel
theorem dX9_winding_19 : decode cX9_winding 19 = .ok (.iconst 1, 1) := by decide +kernel
theorem dX9_winding_20 : decode cX9_winding 20 = .ok (.isub, 1) := by decide +kernel
theorem dX9_winding_21 : decode cX9_winding 21 = .ok (.iaload, 1) := by decide +kernel
theorem dX9_winding_22 : decode cX9_winding 22 = .ok (.istore_n 2, 1) := by decide +kernel
theorem dX9_winding_23 : decode cX9_winding 23 = .ok (.sipush 1000, 3) := by decide +kernel
theorem dX9_winding_26 : decode cX9_winding 26 = .ok (.aload_n 0, 1) := by decide +kernel
theorem dX9_winding_27 : decode cX9_winding 27 = .ok (.getfield 7, 3) := by decide +kernel
theorem dX9_winding_30 : decode cX9_winding 30 = .ok (.iconst 4, 1) := by decide +kernel
theorem dX9_winding_31 : decode cX9_winding 31 = .ok (.iaload, 1) := by decide +kernel
theorem dX9_winding_32 : decode cX9_winding 32 = .ok (.iconst 1, 1) := by decide +kernel
theorem dX9_winding_33 : decode cX9_winding 33 = .ok (.isub, 1) := by decide +kernel
theorem dX9_winding_34 : decode cX9_winding 34 = .ok (.imul, 1) := by decide +kernel
theorem dX9_winding_35 : decode cX9_winding 35 = .ok (.iload_n 1, 1) := by decide +kernel
theorem dX9_winding_36 : decode cX9_winding 36 = .ok (.bipush 20, 2) := by decide +kernel
theorem dX9_winding_38 : decode cX9_winding 38 = .ok (.irem, 1) := by decide +kernel
theorem dX9_winding_39 : decode cX9_winding 39 = .ok (.iload_n 2, 1) := by decide +kernel
theorem dX9_winding_40 : decode cX9_winding 40 = .ok (.bipush 20, 2) := by decide +kernel
theorem dX9_winding_42 : decode cX9_winding 42 = .ok (.irem, 1) := by decide +kernel
theorem dX9_winding_43 : decode cX9_winding 43 = .ok (.invokestatic 152, 3) := by decide +kernel
theorem dX9_winding_46 : decode cX9_winding 46 = .ok (.iload_n 1, 1) := by decide +kernel
theorem dX9_winding_47 : decode cX9_winding 47 = .ok (.bipush 20, 2) := by decide +kernel
theorem dX9_winding_49 : decode cX9_winding 49 = .ok (.idiv, 1) := by decide +kernel
theorem dX9_winding_50 : decode cX9_winding 50 = .ok (.iload_n 2, 1) := by decide +kernel
theorem dX9_winding_51 : decode cX9_winding 51 = .ok (.bipush 20, 2) := by decide +kernel
theorem dX9_winding_53 : decode cX9_winding 53 = .ok (.idiv, 1) := by decide +kernel
theorem dX9_winding_54 : decode cX9_winding 54 = .ok (.invokestatic 152, 3) := by decide +kernel
theorem dX9_winding_57 : decode cX9_winding 57 = .ok (.iadd, 1) := by decide +kernel
theorem dX9_winding_58 : decode cX9_winding 58 = .ok (.idiv, 1) := by decide +kernel
theorem dX9_winding_59 : decode cX9_winding 59 = .ok (.ireturn, 1) := by decide +kernel
theorem dX9_allWear_0 : decode cX9_allWear 0 = .ok (.iconst 0, 1) := by decide +kernel
theorem dX9_allWear_1 : decode cX9_allWear 1 = .ok (.istore_n 1, 1) := by decide +kernel
theorem dX9_allWear_2 : decode cX9_allWear 2 = .ok (.iconst 0, 1) := by decide +kernel
theorem dX9_allWear_3 : decode cX9_allWear 3 = .ok (.istore_n 2, 1) := by decide +kernel
theorem dX9_allWear_4 : decode cX9_allWear 4 = .ok (.iload_n 2, 1) := by decide +kernel
theorem dX9_allWear_5 : decode cX9_allWear 5 = .ok (.sipush 240, 3) := by decide +kernel
theorem dX9_allWear_8 : decode cX9_allWear 8 = .ok (.if_icmp .ge 22, 3) := by decide +kernel
theorem dX9_allWear_11 : decode cX9_allWear 11 = .ok (.iload_n 1, 1) := by decide +kernel
theorem dX9_allWear_12 : decode cX9_allWear 12 = .ok (.aload_n 0, 1) := by decide +kernel
theorem dX9_allWear_13 : decode cX9_allWear 13 = .ok (.getfield 7, 3) := by decide +kernel
theorem dX9_allWear_16 : decode cX9_allWear 16 = .ok (.sipush 155, 3) := by decide +kernel
theorem dX9_allWear_19 : decode cX9_allWear 19 = .ok (.iload_n 2, 1) := by decide +kernel
theorem dX9_allWear_20 : decode cX9_allWear 20 = .ok (.iadd, 1) := by decide +kernel
theorem dX9_allWear_21 : decode cX9_allWear 21 = .ok (.iaload, 1) := by decide +kernel
theorem dX9_allWear_22 : decode cX9_allWear 22 = .ok (.iadd, 1) := by decide +kernel
theorem dX9_allWear_23 : decode cX9_allWear 23 = .ok (.istore_n 1, 1) := by decide +kernel
theorem dX9_allWear_24 : decode cX9_allWear 24 = .ok (.iinc 2 1, 3) := by decide +kernel
theorem dX9_allWear_27 : decode cX9_allWear 27 = .ok (.goto (-23), 3) := by decide +kernel
theorem dX9_allWear_30 : decode cX9_allWear 30 = .ok (.iload_n 1, 1) := by decide +kernel
theorem dX9_allWear_31 : decode cX9_allWear 31 = .ok (.ireturn, 1) := by decide +kernel
theorem dX9_allNecks_0 : decode cX9_allNecks 0 = .ok (.aload_n 0, 1) := by decide +kernel
theorem dX9_allNecks_1 : decode cX9_allNecks 1 = .ok (.iconst 0, 1) := by decide +kernel
theorem dX9_allNecks_2 : decode cX9_allNecks 2 = .ok (.iconst 0, 1) := by decide +kernel
theorem dX9_allNecks_3 : decode cX9_allNecks 3 = .ok (.invokevirtual 133, 3) := by decide +kernel
theorem dX9_allNecks_6 : decode cX9_allNecks 6 = .ok (.istore_n 1, 1) := by decide +kernel
theorem dX9_allNecks_7 : decode cX9_allNecks 7 = .ok (.aload_n 0, 1) := by decide +kernel
theorem dX9_allNecks_8 : decode cX9_allNecks 8 = .ok (.getfield 109, 3) := by decide +kernel
theorem dX9_allNecks_11 : decode cX9_allNecks 11 = .ok (.ireturn, 1) := by decide +kernel
theorem dX9_count_0 : decode cX9_count 0 = .ok (.iload_n 1, 1) := by decide +kernel
theorem dX9_count_1 : decode cX9_count 1 = .ok (.tableswitch 183 0 17 #[87, 94, 103, 108, 113, 122, 131, 140, 145, 154, 163, 168, 183, 183, 183, 183, 173, 178], 87) := by decide +kernel
theorem dX9_count_88 : decode cX9_count 88 = .ok (.aload_n 0, 1) := by decide +kernel
theorem dX9_count_89 : decode cX9_count 89 = .ok (.getfield 7, 3) := by decide +kernel
theorem dX9_count_92 : decode cX9_count 92 = .ok (.iconst 4, 1) := by decide +kernel
theorem dX9_count_93 : decode cX9_count 93 = .ok (.iaload, 1) := by decide +kernel
theorem dX9_count_94 : decode cX9_count 94 = .ok (.ireturn, 1) := by decide +kernel
theorem dX9_count_95 : decode cX9_count 95 = .ok (.aload_n 0, 1) := by decide +kernel
theorem dX9_count_96 : decode cX9_count 96 = .ok (.invokevirtual 112, 3) := by decide +kernel
theorem dX9_count_99 : decode cX9_count 99 = .ok (.aload_n 0, 1) := by decide +kernel
theorem dX9_count_100 : decode cX9_count 100 = .ok (.getfield 62, 3) := by decide +kernel
theorem dX9_count_103 : decode cX9_count 103 = .ok (.ireturn, 1) := by decide +kernel
theorem dX9_count_104 : decode cX9_count 104 = .ok (.aload_n 0, 1) := by decide +kernel
theorem dX9_count_105 : decode cX9_count 105 = .ok (.invokevirtual 155, 3) := by decide +kernel
theorem dX9_count_108 : decode cX9_count 108 = .ok (.ireturn, 1) := by decide +kernel
theorem dX9_count_109 : decode cX9_count 109 = .ok (.aload_n 0, 1) := by decide +kernel
theorem dX9_count_110 : decode cX9_count 110 = .ok (.invokevirtual 158, 3) := by decide +kernel
theorem dX9_count_113 : decode cX9_count 113 = .ok (.ireturn, 1) := by decide +kernel
theorem dX9_count_114 : decode cX9_count 114 = .ok (.aload_n 0, 1) := by decide +kernel
theorem dX9_count_115 : decode cX9_count 115 = .ok (.getfield 7, 3) := by decide +kernel
theorem dX9_count_118 : decode cX9_count 118 = .ok (.sipush 1355, 3) := by decide +kernel
theorem dX9_count_121 : decode cX9_count 121 = .ok (.iaload, 1) := by decide +kernel
theorem dX9_count_122 : decode cX9_count 122 = .ok (.ireturn, 1) := by decide +kernel
theorem dX9_count_123 : decode cX9_count 123 = .ok (.aload_n 0, 1) := by decide +kernel
theorem dX9_count_124 : decode cX9_count 124 = .ok (.getfield 7, 3) := by decide +kernel
theorem dX9_count_127 : decode cX9_count 127 = .ok (.sipush 1404, 3) := by decide +kernel
theorem dX9_count_130 : decode cX9_count 130 = .ok (.iaload, 1) := by decide +kernel
theorem dX9_count_131 : decode cX9_count 131 = .ok (.ireturn, 1) := by decide +kernel
theorem dX9_count_132 : decode cX9_count 132 = .ok (.aload_n 0, 1) := by decide +kernel
theorem dX9_count_133 : decode cX9_count 133 = .ok (.getfield 7, 3) := by decide +kernel
theorem dX9_count_136 : decode cX9_count 136 = .ok (.sipush 1395, 3) := by decide +kernel
theorem dX9_count_139 : decode cX9_count 139 = .ok (.iaload, 1) := by decide +kernel
theorem dX9_count_140 : decode cX9_count 140 = .ok (.ireturn, 1) := by decide +kernel
theorem dX9_count_141 : decode cX9_count 141 = .ok (.aload_n 0, 1) := by decide +kernel
theorem dX9_count_142 : decode cX9_count 142 = .ok (.invokevirtual 145, 3) := by decide +kernel
theorem dX9_count_145 : decode cX9_count 145 = .ok (.ireturn, 1) := by decide +kernel
theorem dX9_count_146 : decode cX9_count 146 = .ok (.aload_n 0, 1) := by decide +kernel
theorem dX9_count_147 : decode cX9_count 147 = .ok (.getfield 7, 3) := by decide +kernel
theorem dX9_count_150 : decode cX9_count 150 = .ok (.sipush 1405, 3) := by decide +kernel
theorem dX9_count_153 : decode cX9_count 153 = .ok (.iaload, 1) := by decide +kernel
theorem dX9_count_154 : decode cX9_count 154 = .ok (.ireturn, 1) := by decide +kernel
theorem dX9_count_155 : decode cX9_count 155 = .ok (.aload_n 0, 1) := by decide +kernel
theorem dX9_count_156 : decode cX9_count 156 = .ok (.getfield 7, 3) := by decide +kernel
theorem dX9_count_159 : decode cX9_count 159 = .ok (.sipush 1406, 3) := by decide +kernel
theorem dX9_count_162 : decode cX9_count 162 = .ok (.iaload, 1) := by decide +kernel
theorem dX9_count_163 : decode cX9_count 163 = .ok (.ireturn, 1) := by decide +kernel
theorem dX9_count_164 : decode cX9_count 164 = .ok (.aload_n 0, 1) := by decide +kernel
theorem dX9_count_165 : decode cX9_count 165 = .ok (.invokevirtual 161, 3) := by decide +kernel
theorem dX9_count_168 : decode cX9_count 168 = .ok (.ireturn, 1) := by decide +kernel
theorem dX9_count_169 : decode cX9_count 169 = .ok (.aload_n 0, 1) := by decide +kernel
theorem dX9_count_170 : decode cX9_count 170 = .ok (.invokevirtual 164, 3) := by decide +kernel
theorem dX9_count_173 : decode cX9_count 173 = .ok (.ireturn, 1) := by decide +kernel
theorem dX9_count_174 : decode cX9_count 174 = .ok (.aload_n 0, 1) := by decide +kernel
theorem dX9_count_175 : decode cX9_count 175 = .ok (.getfield 167, 3) := by decide +kernel
theorem dX9_count_178 : decode cX9_count 178 = .ok (.ireturn, 1) := by decide +kernel
theorem dX9_count_179 : decode cX9_count 179 = .ok (.aload_n 0, 1) := by decide +kernel
theorem dX9_count_180 : decode cX9_count 180 = .ok (.getfield 54, 3) := by decide +kernel
theorem dX9_count_183 : decode cX9_count 183 = .ok (.ireturn, 1) := by decide +kernel
theorem dX9_count_184 : decode cX9_count 184 = .ok (.iload_n 1, 1) := by decide +kernel
theorem dX9_count_185 : decode cX9_count 185 = .ok (.bipush 12, 2) := by decide +kernel
theorem dX9_count_187 : decode cX9_count 187 = .ok (.bipush 15, 2) := by decide +kernel
theorem dX9_count_189 : decode cX9_count 189 = .ok (.invokestatic 50, 3) := by decide +kernel
theorem dX9_count_192 : decode cX9_count 192 = .ok (.ifCond .eq 17, 3) := by decide +kernel
theorem dX9_count_195 : decode cX9_count 195 = .ok (.aload_n 0, 1) := by decide +kernel
theorem dX9_count_196 : decode cX9_count 196 = .ok (.getfield 7, 3) := by decide +kernel
theorem dX9_count_199 : decode cX9_count 199 = .ok (.iconst 0, 1) := by decide +kernel
theorem dX9_count_200 : decode cX9_count 200 = .ok (.iload_n 1, 1) := by decide +kernel
theorem dX9_count_201 : decode cX9_count 201 = .ok (.iadd, 1) := by decide +kernel
theorem dX9_count_202 : decode cX9_count 202 = .ok (.bipush 12, 2) := by decide +kernel
theorem dX9_count_204 : decode cX9_count 204 = .ok (.isub, 1) := by decide +kernel
theorem dX9_count_205 : decode cX9_count 205 = .ok (.iaload, 1) := by decide +kernel
theorem dX9_count_206 : decode cX9_count 206 = .ok (.goto 5, 3) := by decide +kernel
theorem dX9_count_209 : decode cX9_count 209 = .ok (.bipush (-2), 2) := by decide +kernel
theorem dX9_count_211 : decode cX9_count 211 = .ok (.ireturn, 1) := by decide +kernel
theorem dX9_isFlood_0 : decode cX9_isFlood 0 = .ok (.iload_n 1, 1) := by decide +kernel
theorem dX9_isFlood_1 : decode cX9_isFlood 1 = .ok (.iconst 0, 1) := by decide +kernel
theorem dX9_isFlood_2 : decode cX9_isFlood 2 = .ok (.sipush 999, 3) := by decide +kernel
theorem dX9_isFlood_5 : decode cX9_isFlood 5 = .ok (.invokestatic 50, 3) := by decide +kernel
theorem dX9_isFlood_8 : decode cX9_isFlood 8 = .ok (.ifCond .ne 8, 3) := by decide +kernel
theorem dX9_isFlood_11 : decode cX9_isFlood 11 = .ok (.bipush (-2), 2) := by decide +kernel
theorem dX9_isFlood_13 : decode cX9_isFlood 13 = .ok (.goto 16, 3) := by decide +kernel
theorem dX9_isFlood_16 : decode cX9_isFlood 16 = .ok (.aload_n 0, 1) := by decide +kernel
theorem dX9_isFlood_17 : decode cX9_isFlood 17 = .ok (.iload_n 1, 1) := by decide +kernel
theorem dX9_isFlood_18 : decode cX9_isFlood 18 = .ok (.invokevirtual 115, 3) := by decide +kernel
theorem dX9_isFlood_21 : decode cX9_isFlood 21 = .ok (.ifCond .eq 7, 3) := by decide +kernel
theorem dX9_isFlood_24 : decode cX9_isFlood 24 = .ok (.iconst 1, 1) := by decide +kernel
theorem dX9_isFlood_25 : decode cX9_isFlood 25 = .ok (.goto 4, 3) := by decide +kernel
theorem dX9_isFlood_28 : decode cX9_isFlood 28 = .ok (.iconst 0, 1) := by decide +kernel
theorem dX9_isFlood_29 : decode cX9_isFlood 29 = .ok (.ireturn, 1) := by decide +kernel
theorem dX9_ifPassed_0 : decode cX9_ifPassed 0 = .ok (.iload_n 1, 1) := by decide +kernel
theorem dX9_ifPassed_1 : decode cX9_ifPassed 1 = .ok (.iconst 1, 1) := by decide +kernel
theorem dX9_ifPassed_2 : decode cX9_ifPassed 2 = .ok (.bipush 50, 2) := by decide +kernel
theorem dX9_ifPassed_4 : decode cX9_ifPassed 4 = .ok (.invokestatic 50, 3) := by decide +kernel
theorem dX9_ifPassed_7 : decode cX9_ifPassed 7 = .ok (.ifCond .eq 12, 3) := by decide +kernel
theorem dX9_ifPassed_10 : decode cX9_ifPassed 10 = .ok (.iload_n 2, 1) := by decide +kernel
theorem dX9_ifPassed_11 : decode cX9_ifPassed 11 = .ok (.iconst 0, 1) := by decide +kernel
theorem dX9_ifPassed_12 : decode cX9_ifPassed 12 = .ok (.iconst 3, 1) := by decide +kernel
theorem dX9_ifPassed_13 : decode cX9_ifPassed 13 = .ok (.invokestatic 50, 3) := by decide +kernel
theorem dX9_ifPassed_16 : decode cX9_ifPassed 16 = .ok (.ifCond .ne 6, 3) := by decide +kernel
theorem dX9_ifPassed_19 : decode cX9_ifPassed 19 = .ok (.bipush (-2), 2) := by decide +kernel
theorem dX9_ifPassed_21 : decode cX9_ifPassed 21 = .ok (.ireturn, 1) := by decide +kernel
theorem dX9_ifPassed_22 : decode cX9_ifPassed 22 = .ok (.aload_n 0, 1) := by decide +kernel
theorem dX9_ifPassed_23 : decode cX9_ifPassed 23 = .ok (.invokevirtual 170, 3) := by decide +kernel
theorem dX9_ifPassed_26 : decode cX9_ifPassed 26 = .ok (.iconst 0, 1) := by decide +kernel
theorem dX9_ifPassed_27 : decode cX9_ifPassed 27 = .ok (.istore_n 3, 1) := by decide +kernel
theorem dX9_ifPassed_28 : decode cX9_ifPassed 28 = .ok (.iload_n 3, 1) := by decide +kernel
theorem dX9_ifPassed_29 : decode cX9_ifPassed 29 = .ok (.iload_n 1, 1) := by decide +kernel
theorem dX9_ifPassed_30 : decode cX9_ifPassed 30 = .ok (.if_icmp .ge 15, 3) := by decide +kernel
theorem dX9_ifPassed_33 : decode cX9_ifPassed 33 = .ok (.aload_n 0, 1) := by decide +kernel
theorem dX9_ifPassed_34 : decode cX9_ifPassed 34 = .ok (.invokevirtual 149, 3) := by decide +kernel
theorem dX9_ifPassed_37 : decode cX9_ifPassed 37 = .ok (.istore 4, 2) := by decide +kernel
theorem dX9_ifPassed_39 : decode cX9_ifPassed 39 = .ok (.iinc 3 1, 3) := by decide +kernel
theorem dX9_ifPassed_42 : decode cX9_ifPassed 42 = .ok (.goto (-14), 3) := by decide +kernel
theorem dX9_ifPassed_45 : decode cX9_ifPassed 45 = .ok (.iload_n 2, 1) := by decide +kernel
theorem dX9_ifPassed_46 : decode cX9_ifPassed 46 = .ok (.ifCond .ne 23, 3) := by decide +kernel
theorem dX9_ifPassed_49 : decode cX9_ifPassed 49 = .ok (.aload_n 0, 1) := by decide +kernel
theorem dX9_ifPassed_50 : decode cX9_ifPassed 50 = .ok (.getfield 7, 3) := by decide +kernel
theorem dX9_ifPassed_53 : decode cX9_ifPassed 53 = .ok (.sipush 1405, 3) := by decide +kernel
theorem dX9_ifPassed_56 : decode cX9_ifPassed 56 = .ok (.iaload, 1) := by decide +kernel
theorem dX9_ifPassed_57 : decode cX9_ifPassed 57 = .ok (.aload_n 0, 1) := by decide +kernel
theorem dX9_ifPassed_58 : decode cX9_ifPassed 58 = .ok (.getfield 13, 3) := by decide +kernel
theorem dX9_ifPassed_61 : decode cX9_ifPassed 61 = .ok (.sipush 1405, 3) := by decide +kernel
theorem dX9_ifPassed_64 : decode cX9_ifPassed 64 = .ok (.iaload, 1) := by decide +kernel
theorem dX9_ifPassed_65 : decode cX9_ifPassed 65 = .ok (.isub, 1) := by decide +kernel
theorem dX9_ifPassed_66 : decode cX9_ifPassed 66 = .ok (.goto 50, 3) := by decide +kernel
theorem dX9_ifPassed_69 : decode cX9_ifPassed 69 = .ok (.iload_n 2, 1) := by decide +kernel
theorem dX9_ifPassed_70 : decode cX9_ifPassed 70 = .ok (.iconst 1, 1) := by decide +kernel
theorem dX9_ifPassed_71 : decode cX9_ifPassed 71 = .ok (.if_icmp .ne 23, 3) := by decide +kernel
theorem dX9_ifPassed_74 : decode cX9_ifPassed 74 = .ok (.aload_n 0, 1) := by decide +kernel
theorem dX9_ifPassed_75 : decode cX9_ifPassed 75 = .ok (.getfield 7, 3) := by decide +kernel
theorem dX9_ifPassed_78 : decode cX9_ifPassed 78 = .ok (.sipush 1406, 3) := by decide +kernel
theorem dX9_ifPassed_81 : decode cX9_ifPassed 81 = .ok (.iaload, 1) := by decide +kernel
theorem dX9_ifPassed_82 : decode cX9_ifPassed 82 = .ok (.aload_n 0, 1) := by decide +kernel
theorem dX9_ifPassed_83 : decode cX9_ifPassed 83 = .ok (.getfield 13, 3) := by decide +kernel
theorem dX9_ifPassed_86 : decode cX9_ifPassed 86 = .ok (.sipush 1406, 3) := by decide +kernel
theorem dX9_ifPassed_89 : decode cX9_ifPassed 89 = .ok (.iaload, 1) := by decide +kernel
theorem dX9_ifPassed_90 : decode cX9_ifPassed 90 = .ok (.isub, 1) := by decide +kernel
theorem dX9_ifPassed_91 : decode cX9_ifPassed 91 = .ok (.goto 25, 3) := by decide +kernel
theorem dX9_ifPassed_94 : decode cX9_ifPassed 94 = .ok (.iload_n 2, 1) := by decide +kernel
theorem dX9_ifPassed_95 : decode cX9_ifPassed 95 = .ok (.iconst 2, 1) := by decide +kernel
theorem dX9_ifPassed_96 : decode cX9_ifPassed 96 = .ok (.if_icmp .ne 12, 3) := by decide +kernel
theorem dX9_ifPassed_99 : decode cX9_ifPassed 99 = .ok (.aload_n 0, 1) := by decide +kernel
theorem dX9_ifPassed_100 : decode cX9_ifPassed 100 = .ok (.getfield 7, 3) := by decide +kernel
theorem dX9_ifPassed_103 : decode cX9_ifPassed 103 = .ok (.iconst 4, 1) := by decide +kernel
theorem dX9_ifPassed_104 : decode cX9_ifPassed 104 = .ok (.iaload, 1) := by decide +kernel
theorem dX9_ifPassed_105 : decode cX9_ifPassed 105 = .ok (.goto 11, 3) := by decide +kernel
theorem dX9_ifPassed_108 : decode cX9_ifPassed 108 = .ok (.aload_n 0, 1) := by decide +kernel
theorem dX9_ifPassed_109 : decode cX9_ifPassed 109 = .ok (.getfield 7, 3) := by decide +kernel
theorem dX9_ifPassed_112 : decode cX9_ifPassed 112 = .ok (.sipush 1355, 3) := by decide +kernel
theorem dX9_ifPassed_115 : decode cX9_ifPassed 115 = .ok (.iaload, 1) := by decide +kernel
theorem dX9_ifPassed_116 : decode cX9_ifPassed 116 = .ok (.istore_n 3, 1) := by decide +kernel
theorem dX9_ifPassed_117 : decode cX9_ifPassed 117 = .ok (.aload_n 0, 1) := by decide +kernel
theorem dX9_ifPassed_118 : decode cX9_ifPassed 118 = .ok (.invokevirtual 173, 3) := by decide +kernel
theorem dX9_ifPassed_121 : decode cX9_ifPassed 121 = .ok (.iload_n 3, 1) := by decide +kernel
theorem dX9_ifPassed_122 : decode cX9_ifPassed 122 = .ok (.ireturn, 1) := by decide +kernel
theorem dX9_nextCut_0 : decode cX9_nextCut 0 = .ok (.iload_n 1, 1) := by decide +kernel
theorem dX9_nextCut_1 : decode cX9_nextCut 1 = .ok (.iconst 0, 1) := by decide +kernel
theorem dX9_nextCut_2 : decode cX9_nextCut 2 = .ok (.iconst 1, 1) := by decide +kernel
theorem dX9_nextCut_3 : decode cX9_nextCut 3 = .ok (.invokestatic 50, 3) := by decide +kernel
theorem dX9_nextCut_6 : decode cX9_nextCut 6 = .ok (.ifCond .ne 6, 3) := by decide +kernel
theorem dX9_nextCut_9 : decode cX9_nextCut 9 = .ok (.bipush (-2), 2) := by decide +kernel
theorem dX9_nextCut_11 : decode cX9_nextCut 11 = .ok (.ireturn, 1) := by decide +kernel
theorem dX9_nextCut_12 : decode cX9_nextCut 12 = .ok (.aload_n 0, 1) := by decide +kernel
theorem dX9_nextCut_13 : decode cX9_nextCut 13 = .ok (.invokevirtual 170, 3) := by decide +kernel
theorem dX9_nextCut_16 : decode cX9_nextCut 16 = .ok (.bipush (-6), 2) := by decide +kernel
theorem dX9_nextCut_18 : decode cX9_nextCut 18 = .ok (.istore_n 2, 1) := by decide +kernel
theorem dX9_nextCut_19 : decode cX9_nextCut 19 = .ok (.iconst 0, 1) := by decide +kernel
theorem dX9_nextCut_20 : decode cX9_nextCut 20 = .ok (.istore_n 3, 1) := by decide +kernel
theorem dX9_nextCut_21 : decode cX9_nextCut 21 = .ok (.iload_n 3, 1) := by decide +kernel
theorem dX9_nextCut_22 : decode cX9_nextCut 22 = .ok (.bipush 60, 2) := by decide +kernel
theorem dX9_nextCut_24 : decode cX9_nextCut 24 = .ok (.if_icmp .ge 42, 3) := by decide +kernel
theorem dX9_nextCut_27 : decode cX9_nextCut 27 = .ok (.iload_n 2, 1) := by decide +kernel
theorem dX9_nextCut_28 : decode cX9_nextCut 28 = .ok (.bipush (-6), 2) := by decide +kernel
theorem dX9_nextCut_30 : decode cX9_nextCut 30 = .ok (.if_icmp .ne 36, 3) := by decide +kernel
theorem dX9_nextCut_33 : decode cX9_nextCut 33 = .ok (.aload_n 0, 1) := by decide +kernel
theorem dX9_nextCut_34 : decode cX9_nextCut 34 = .ok (.invokevirtual 149, 3) := by decide +kernel
theorem dX9_nextCut_37 : decode cX9_nextCut 37 = .ok (.istore 4, 2) := by decide +kernel
theorem dX9_nextCut_39 : decode cX9_nextCut 39 = .ok (.iload 4, 2) := by decide +kernel
theorem dX9_nextCut_41 : decode cX9_nextCut 41 = .ok (.ifCond .ne 8, 3) := by decide +kernel
theorem dX9_nextCut_44 : decode cX9_nextCut 44 = .ok (.bipush (-6), 2) := by decide +kernel
theorem dX9_nextCut_46 : decode cX9_nextCut 46 = .ok (.goto 13, 3) := by decide +kernel
theorem dX9_nextCut_49 : decode cX9_nextCut 49 = .ok (.iload_n 1, 1) := by decide +kernel
theorem dX9_nextCut_50 : decode cX9_nextCut 50 = .ok (.ifCond .ne 7, 3) := by decide +kernel
theorem dX9_nextCut_53 : decode cX9_nextCut 53 = .ok (.iload_n 3, 1) := by decide +kernel
theorem dX9_nextCut_54 : decode cX9_nextCut 54 = .ok (.goto 5, 3) := by decide +kernel
theorem dX9_nextCut_57 : decode cX9_nextCut 57 = .ok (.iload 4, 2) := by decide +kernel
theorem dX9_nextCut_59 : decode cX9_nextCut 59 = .ok (.istore_n 2, 1) := by decide +kernel
theorem dX9_nextCut_60 : decode cX9_nextCut 60 = .ok (.iinc 3 1, 3) := by decide +kernel
theorem dX9_nextCut_63 : decode cX9_nextCut 63 = .ok (.goto (-42), 3) := by decide +kernel
theorem dX9_nextCut_66 : decode cX9_nextCut 66 = .ok (.aload_n 0, 1) := by decide +kernel
theorem dX9_nextCut_67 : decode cX9_nextCut 67 = .ok (.invokevirtual 173, 3) := by decide +kernel
theorem dX9_nextCut_70 : decode cX9_nextCut 70 = .ok (.iload_n 2, 1) := by decide +kernel
theorem dX9_nextCut_71 : decode cX9_nextCut 71 = .ok (.ireturn, 1) := by decide +kernel
theorem dX9_taken_0 : decode cX9_taken 0 = .ok (.iload_n 1, 1) := by decide +kernel
theorem dX9_taken_1 : decode cX9_taken 1 = .ok (.iload_n 2, 1) := by decide +kernel
theorem dX9_taken_2 : decode cX9_taken 2 = .ok (.invokestatic 58, 3) := by decide +kernel
theorem dX9_taken_5 : decode cX9_taken 5 = .ok (.ifCond .ne 5, 3) := by decide +kernel
theorem dX9_taken_8 : decode cX9_taken 8 = .ok (.iconst (-1), 1) := by decide +kernel
theorem dX9_taken_9 : decode cX9_taken 9 = .ok (.ireturn, 1) := by decide +kernel
theorem dX9_taken_10 : decode cX9_taken 10 = .ok (.bipush 20, 2) := by decide +kernel
theorem dX9_taken_12 : decode cX9_taken 12 = .ok (.iload_n 2, 1) := by decide +kernel
theorem dX9_taken_13 : decode cX9_taken 13 = .ok (.imul, 1) := by decide +kernel
theorem dX9_taken_14 : decode cX9_taken 14 = .ok (.iload_n 1, 1) := by decide +kernel
theorem dX9_taken_15 : decode cX9_taken 15 = .ok (.iadd, 1) := by decide +kernel
theorem dX9_taken_16 : decode cX9_taken 16 = .ok (.istore_n 3, 1) := by decide +kernel
theorem dX9_taken_17 : decode cX9_taken 17 = .ok (.aload_n 0, 1) := by decide +kernel
theorem dX9_taken_18 : decode cX9_taken 18 = .ok (.iload_n 3, 1) := by decide +kernel
theorem dX9_taken_19 : decode cX9_taken 19 = .ok (.invokevirtual 142, 3) := by decide +kernel
theorem dX9_taken_22 : decode cX9_taken 22 = .ok (.bipush (-6), 2) := by decide +kernel
theorem dX9_taken_24 : decode cX9_taken 24 = .ok (.if_icmp .eq 6, 3) := by decide +kernel
theorem dX9_taken_27 : decode cX9_taken 27 = .ok (.bipush (-6), 2) := by decide +kernel
theorem dX9_taken_29 : decode cX9_taken 29 = .ok (.ireturn, 1) := by decide +kernel
theorem dX9_taken_30 : decode cX9_taken 30 = .ok (.aload_n 0, 1) := by decide +kernel
theorem dX9_taken_31 : decode cX9_taken 31 = .ok (.invokevirtual 170, 3) := by decide +kernel
theorem dX9_taken_34 : decode cX9_taken 34 = .ok (.aload_n 0, 1) := by decide +kernel
theorem dX9_taken_35 : decode cX9_taken 35 = .ok (.iload_n 3, 1) := by decide +kernel
theorem dX9_taken_36 : decode cX9_taken 36 = .ok (.putfield 90, 3) := by decide +kernel
theorem dX9_taken_39 : decode cX9_taken 39 = .ok (.aload_n 0, 1) := by decide +kernel
theorem dX9_taken_40 : decode cX9_taken 40 = .ok (.iconst 0, 1) := by decide +kernel
theorem dX9_taken_41 : decode cX9_taken 41 = .ok (.putfield 86, 3) := by decide +kernel
theorem dX9_taken_44 : decode cX9_taken 44 = .ok (.bipush (-6), 2) := by decide +kernel
theorem dX9_taken_46 : decode cX9_taken 46 = .ok (.istore 4, 2) := by decide +kernel
theorem dX9_taken_48 : decode cX9_taken 48 = .ok (.iconst 0, 1) := by decide +kernel
theorem dX9_taken_49 : decode cX9_taken 49 = .ok (.istore 5, 2) := by decide +kernel
theorem dX9_taken_51 : decode cX9_taken 51 = .ok (.iload 5, 2) := by decide +kernel
theorem dX9_taken_53 : decode cX9_taken 53 = .ok (.bipush 60, 2) := by decide +kernel
theorem dX9_taken_55 : decode cX9_taken 55 = .ok (.if_icmp .ge 38, 3) := by decide +kernel
theorem dX9_taken_58 : decode cX9_taken 58 = .ok (.iload 4, 2) := by decide +kernel
theorem dX9_taken_60 : decode cX9_taken 60 = .ok (.bipush (-6), 2) := by decide +kernel
theorem dX9_taken_62 : decode cX9_taken 62 = .ok (.if_icmp .ne 31, 3) := by decide +kernel
theorem dX9_taken_65 : decode cX9_taken 65 = .ok (.aload_n 0, 1) := by decide +kernel
theorem dX9_taken_66 : decode cX9_taken 66 = .ok (.invokevirtual 149, 3) := by decide +kernel
theorem dX9_taken_69 : decode cX9_taken 69 = .ok (.istore 6, 2) := by decide +kernel
theorem dX9_taken_71 : decode cX9_taken 71 = .ok (.aload_n 0, 1) := by decide +kernel
theorem dX9_taken_72 : decode cX9_taken 72 = .ok (.getfield 86, 3) := by decide +kernel
theorem dX9_taken_75 : decode cX9_taken 75 = .ok (.ifCond .eq 8, 3) := by decide +kernel
theorem dX9_taken_78 : decode cX9_taken 78 = .ok (.iload 5, 2) := by decide +kernel
theorem dX9_taken_80 : decode cX9_taken 80 = .ok (.goto 5, 3) := by decide +kernel
theorem dX9_taken_83 : decode cX9_taken 83 = .ok (.bipush (-6), 2) := by decide +kernel
theorem dX9_taken_85 : decode cX9_taken 85 = .ok (.istore 4, 2) := by decide +kernel
theorem dX9_taken_87 : decode cX9_taken 87 = .ok (.iinc 5 1, 3) := by decide +kernel
theorem dX9_taken_90 : decode cX9_taken 90 = .ok (.goto (-39), 3) := by decide +kernel
theorem dX9_taken_93 : decode cX9_taken 93 = .ok (.aload_n 0, 1) := by decide +kernel
theorem dX9_taken_94 : decode cX9_taken 94 = .ok (.invokevirtual 173, 3) := by decide +kernel
theorem dX9_taken_97 : decode cX9_taken 97 = .ok (.iload 4, 2) := by decide +kernel
theorem dX9_taken_99 : decode cX9_taken 99 = .ok (.ireturn, 1) := by decide +kernel
theorem dX9_put_0 : decode cX9_put 0 = .ok (.iconst 0, 1) := by decide +kernel
theorem dX9_put_1 : decode cX9_put 1 = .ok (.istore_n 3, 1) := by decide +kernel
theorem dX9_put_2 : decode cX9_put 2 = .ok (.iconst 0, 1) := by decide +kernel
theorem dX9_put_3 : decode cX9_put 3 = .ok (.istore 4, 2) := by decide +kernel
theorem dX9_put_5 : decode cX9_put 5 = .ok (.iconst 0, 1) := by decide +kernel
theorem dX9_put_6 : decode cX9_put 6 = .ok (.istore 5, 2) := by decide +kernel
theorem dX9_put_8 : decode cX9_put 8 = .ok (.iload 5, 2) := by decide +kernel
theorem dX9_put_10 : decode cX9_put 10 = .ok (.bipush 8, 2) := by decide +kernel
theorem dX9_put_12 : decode cX9_put 12 = .ok (.if_icmp .ge 89, 3) := by decide +kernel
theorem dX9_put_15 : decode cX9_put 15 = .ok (.lload_n 1, 1) := by decide +kernel
theorem dX9_put_16 : decode cX9_put 16 = .ok (.bipush 8, 2) := by decide +kernel
theorem dX9_put_18 : decode cX9_put 18 = .ok (.iload 5, 2) := by decide +kernel
theorem dX9_put_20 : decode cX9_put 20 = .ok (.imul, 1) := by decide +kernel
theorem dX9_put_21 : decode cX9_put 21 = .ok (.lushr, 1) := by decide +kernel
theorem dX9_put_22 : decode cX9_put 22 = .ok (.ldc2_w 176, 3) := by decide +kernel
theorem dX9_put_25 : decode cX9_put 25 = .ok (.land, 1) := by decide +kernel
theorem dX9_put_26 : decode cX9_put 26 = .ok (.l2i, 1) := by decide +kernel
theorem dX9_put_27 : decode cX9_put 27 = .ok (.istore 6, 2) := by decide +kernel
theorem dX9_put_29 : decode cX9_put 29 = .ok (.iload 5, 2) := by decide +kernel
theorem dX9_put_31 : decode cX9_put 31 = .ok (.ifCond .le 19, 3) := by decide +kernel
theorem dX9_put_34 : decode cX9_put 34 = .ok (.lload_n 1, 1) := by decide +kernel
theorem dX9_put_35 : decode cX9_put 35 = .ok (.bipush 8, 2) := by decide +kernel
theorem dX9_put_37 : decode cX9_put 37 = .ok (.iload 5, 2) := by decide +kernel
theorem dX9_put_39 : decode cX9_put 39 = .ok (.imul, 1) := by decide +kernel
theorem dX9_put_40 : decode cX9_put 40 = .ok (.lushr, 1) := by decide +kernel
theorem dX9_put_41 : decode cX9_put 41 = .ok (.lconst 0, 1) := by decide +kernel
theorem dX9_put_42 : decode cX9_put 42 = .ok (.lcmp, 1) := by decide +kernel
theorem dX9_put_43 : decode cX9_put 43 = .ok (.ifCond .ne 7, 3) := by decide +kernel
theorem dX9_put_46 : decode cX9_put 46 = .ok (.iconst 1, 1) := by decide +kernel
theorem dX9_put_47 : decode cX9_put 47 = .ok (.goto 4, 3) := by decide +kernel
theorem dX9_put_50 : decode cX9_put 50 = .ok (.iconst 0, 1) := by decide +kernel
theorem dX9_put_51 : decode cX9_put 51 = .ok (.istore 7, 2) := by decide +kernel
theorem dX9_put_53 : decode cX9_put 53 = .ok (.iload 4, 2) := by decide +kernel
theorem dX9_put_55 : decode cX9_put 55 = .ok (.ifCond .ne 20, 3) := by decide +kernel
theorem dX9_put_58 : decode cX9_put 58 = .ok (.iload 7, 2) := by decide +kernel
theorem dX9_put_60 : decode cX9_put 60 = .ok (.ifCond .ne 19, 3) := by decide +kernel
theorem dX9_put_63 : decode cX9_put 63 = .ok (.iload 6, 2) := by decide +kernel
theorem dX9_put_65 : decode cX9_put 65 = .ok (.bipush 33, 2) := by decide +kernel
theorem dX9_put_67 : decode cX9_put 67 = .ok (.bipush 126, 2) := by decide +kernel
theorem dX9_put_69 : decode cX9_put 69 = .ok (.invokestatic 50, 3) := by decide +kernel
theorem dX9_put_72 : decode cX9_put 72 = .ok (.ifCond .ne 7, 3) := by decide +kernel
theorem dX9_put_75 : decode cX9_put 75 = .ok (.iconst 1, 1) := by decide +kernel
theorem dX9_put_76 : decode cX9_put 76 = .ok (.goto 4, 3) := by decide +kernel
theorem dX9_put_79 : decode cX9_put 79 = .ok (.iconst 0, 1) := by decide +kernel
theorem dX9_put_80 : decode cX9_put 80 = .ok (.istore 4, 2) := by decide +kernel
theorem dX9_put_82 : decode cX9_put 82 = .ok (.iload_n 3, 1) := by decide +kernel
theorem dX9_put_83 : decode cX9_put 83 = .ok (.iload 7, 2) := by decide +kernel
theorem dX9_put_85 : decode cX9_put 85 = .ok (.ifCond .eq 7, 3) := by decide +kernel
theorem dX9_put_88 : decode cX9_put 88 = .ok (.iconst 0, 1) := by decide +kernel
theorem dX9_put_89 : decode cX9_put 89 = .ok (.goto 4, 3) := by decide +kernel
theorem dX9_put_92 : decode cX9_put 92 = .ok (.iconst 1, 1) := by decide +kernel
theorem dX9_put_93 : decode cX9_put 93 = .ok (.iadd, 1) := by decide +kernel
theorem dX9_put_94 : decode cX9_put 94 = .ok (.istore_n 3, 1) := by decide +kernel
theorem dX9_put_95 : decode cX9_put 95 = .ok (.iinc 5 1, 3) := by decide +kernel
theorem dX9_put_98 : decode cX9_put 98 = .ok (.goto (-90), 3) := by decide +kernel
theorem dX9_put_101 : decode cX9_put 101 = .ok (.iload 4, 2) := by decide +kernel
theorem dX9_put_103 : decode cX9_put 103 = .ok (.ifCond .eq 6, 3) := by decide +kernel
theorem dX9_put_106 : decode cX9_put 106 = .ok (.bipush (-2), 2) := by decide +kernel
theorem dX9_put_108 : decode cX9_put 108 = .ok (.ireturn, 1) := by decide +kernel
theorem dX9_put_109 : decode cX9_put 109 = .ok (.aload_n 0, 1) := by decide +kernel
theorem dX9_put_110 : decode cX9_put 110 = .ok (.getfield 167, 3) := by decide +kernel
theorem dX9_put_113 : decode cX9_put 113 = .ok (.iload_n 3, 1) := by decide +kernel
theorem dX9_put_114 : decode cX9_put 114 = .ok (.iadd, 1) := by decide +kernel
theorem dX9_put_115 : decode cX9_put 115 = .ok (.bipush 64, 2) := by decide +kernel
theorem dX9_put_117 : decode cX9_put 117 = .ok (.if_icmp .le 6, 3) := by decide +kernel
theorem dX9_put_120 : decode cX9_put 120 = .ok (.bipush (-4), 2) := by decide +kernel
theorem dX9_put_122 : decode cX9_put 122 = .ok (.ireturn, 1) := by decide +kernel
theorem dX9_put_123 : decode cX9_put 123 = .ok (.iconst 0, 1) := by decide +kernel
theorem dX9_put_124 : decode cX9_put 124 = .ok (.istore 5, 2) := by decide +kernel
theorem dX9_put_126 : decode cX9_put 126 = .ok (.iload 5, 2) := by decide +kernel
theorem dX9_put_128 : decode cX9_put 128 = .ok (.iload_n 3, 1) := by decide +kernel
theorem dX9_put_129 : decode cX9_put 129 = .ok (.if_icmp .ge 37, 3) := by decide +kernel
theorem dX9_put_132 : decode cX9_put 132 = .ok (.aload_n 0, 1) := by decide +kernel
theorem dX9_put_133 : decode cX9_put 133 = .ok (.getfield 26, 3) := by decide +kernel
theorem dX9_put_136 : decode cX9_put 136 = .ok (.aload_n 0, 1) := by decide +kernel
theorem dX9_put_137 : decode cX9_put 137 = .ok (.getfield 167, 3) := by decide +kernel
theorem dX9_put_140 : decode cX9_put 140 = .ok (.iload_n 3, 1) := by decide +kernel
theorem dX9_put_141 : decode cX9_put 141 = .ok (.iadd, 1) := by decide +kernel
theorem dX9_put_142 : decode cX9_put 142 = .ok (.iconst 1, 1) := by decide +kernel
theorem dX9_put_143 : decode cX9_put 143 = .ok (.isub, 1) := by decide +kernel
theorem dX9_put_144 : decode cX9_put 144 = .ok (.iload 5, 2) := by decide +kernel
theorem dX9_put_146 : decode cX9_put 146 = .ok (.isub, 1) := by decide +kernel
theorem dX9_put_147 : decode cX9_put 147 = .ok (.lload_n 1, 1) := by decide +kernel
theorem dX9_put_148 : decode cX9_put 148 = .ok (.bipush 8, 2) := by decide +kernel
theorem dX9_put_150 : decode cX9_put 150 = .ok (.iload 5, 2) := by decide +kernel
theorem dX9_put_152 : decode cX9_put 152 = .ok (.imul, 1) := by decide +kernel
theorem dX9_put_153 : decode cX9_put 153 = .ok (.lushr, 1) := by decide +kernel
theorem dX9_put_154 : decode cX9_put 154 = .ok (.ldc2_w 176, 3) := by decide +kernel
theorem dX9_put_157 : decode cX9_put 157 = .ok (.land, 1) := by decide +kernel
theorem dX9_put_158 : decode cX9_put 158 = .ok (.l2i, 1) := by decide +kernel
theorem dX9_put_159 : decode cX9_put 159 = .ok (.iastore, 1) := by decide +kernel
theorem dX9_put_160 : decode cX9_put 160 = .ok (.iinc 5 1, 3) := by decide +kernel
theorem dX9_put_163 : decode cX9_put 163 = .ok (.goto (-37), 3) := by decide +kernel
theorem dX9_put_166 : decode cX9_put 166 = .ok (.aload_n 0, 1) := by decide +kernel
theorem dX9_put_167 : decode cX9_put 167 = .ok (.dup, 1) := by decide +kernel
theorem dX9_put_168 : decode cX9_put 168 = .ok (.getfield 167, 3) := by decide +kernel
theorem dX9_put_171 : decode cX9_put 171 = .ok (.iload_n 3, 1) := by decide +kernel
theorem dX9_put_172 : decode cX9_put 172 = .ok (.iadd, 1) := by decide +kernel
theorem dX9_put_173 : decode cX9_put 173 = .ok (.putfield 167, 3) := by decide +kernel
theorem dX9_put_176 : decode cX9_put 176 = .ok (.aload_n 0, 1) := by decide +kernel
theorem dX9_put_177 : decode cX9_put 177 = .ok (.getfield 167, 3) := by decide +kernel
theorem dX9_put_180 : decode cX9_put 180 = .ok (.ireturn, 1) := by decide +kernel
theorem dX9_wipe_0 : decode cX9_wipe 0 = .ok (.aload_n 0, 1) := by decide +kernel
theorem dX9_wipe_1 : decode cX9_wipe 1 = .ok (.getfield 167, 3) := by decide +kernel
theorem dX9_wipe_4 : decode cX9_wipe 4 = .ok (.istore_n 1, 1) := by decide +kernel
theorem dX9_wipe_5 : decode cX9_wipe 5 = .ok (.aload_n 0, 1) := by decide +kernel
theorem dX9_wipe_6 : decode cX9_wipe 6 = .ok (.iconst 0, 1) := by decide +kernel
theorem dX9_wipe_7 : decode cX9_wipe 7 = .ok (.putfield 167, 3) := by decide +kernel
theorem dX9_wipe_10 : decode cX9_wipe 10 = .ok (.iload_n 1, 1) := by decide +kernel
theorem dX9_wipe_11 : decode cX9_wipe 11 = .ok (.ireturn, 1) := by decide +kernel
theorem dX9_sign_0 : decode cX9_sign 0 = .ok (.aload_n 0, 1) := by decide +kernel
theorem dX9_sign_1 : decode cX9_sign 1 = .ok (.getfield 178, 3) := by decide +kernel
theorem dX9_sign_4 : decode cX9_sign 4 = .ok (.aload_n 0, 1) := by decide +kernel
theorem dX9_sign_5 : decode cX9_sign 5 = .ok (.getfield 167, 3) := by decide +kernel
theorem dX9_sign_8 : decode cX9_sign 8 = .ok (.if_icmp .ge 15, 3) := by decide +kernel
theorem dX9_sign_11 : decode cX9_sign 11 = .ok (.aload_n 0, 1) := by decide +kernel
theorem dX9_sign_12 : decode cX9_sign 12 = .ok (.getfield 26, 3) := by decide +kernel
theorem dX9_sign_15 : decode cX9_sign 15 = .ok (.aload_n 0, 1) := by decide +kernel
theorem dX9_sign_16 : decode cX9_sign 16 = .ok (.getfield 178, 3) := by decide +kernel
theorem dX9_sign_19 : decode cX9_sign 19 = .ok (.iaload, 1) := by decide +kernel
theorem dX9_sign_20 : decode cX9_sign 20 = .ok (.goto 4, 3) := by decide +kernel
theorem dX9_sign_23 : decode cX9_sign 23 = .ok (.iconst 0, 1) := by decide +kernel
theorem dX9_sign_24 : decode cX9_sign 24 = .ok (.istore_n 3, 1) := by decide +kernel
theorem dX9_sign_25 : decode cX9_sign 25 = .ok (.aload_n 0, 1) := by decide +kernel
theorem dX9_sign_26 : decode cX9_sign 26 = .ok (.aload_n 0, 1) := by decide +kernel
theorem dX9_sign_27 : decode cX9_sign 27 = .ok (.getfield 181, 3) := by decide +kernel
theorem dX9_sign_30 : decode cX9_sign 30 = .ok (.ifCond .ne 12, 3) := by decide +kernel
theorem dX9_sign_33 : decode cX9_sign 33 = .ok (.iload_n 3, 1) := by decide +kernel
theorem dX9_sign_34 : decode cX9_sign 34 = .ok (.iload_n 1, 1) := by decide +kernel
theorem dX9_sign_35 : decode cX9_sign 35 = .ok (.iload_n 2, 1) := by decide +kernel
theorem dX9_sign_36 : decode cX9_sign 36 = .ok (.invokestatic 50, 3) := by decide +kernel
theorem dX9_sign_39 : decode cX9_sign 39 = .ok (.ifCond .ne 7, 3) := by decide +kernel
theorem dX9_sign_42 : decode cX9_sign 42 = .ok (.iconst 1, 1) := by decide +kernel
theorem dX9_sign_43 : decode cX9_sign 43 = .ok (.goto 4, 3) := by decide +kernel
theorem dX9_sign_46 : decode cX9_sign 46 = .ok (.iconst 0, 1) := by decide +kernel
theorem dX9_sign_47 : decode cX9_sign 47 = .ok (.putfield 181, 3) := by decide +kernel
theorem dX9_sign_50 : decode cX9_sign 50 = .ok (.aload_n 0, 1) := by decide +kernel
theorem dX9_sign_51 : decode cX9_sign 51 = .ok (.dup, 1) := by decide +kernel
theorem dX9_sign_52 : decode cX9_sign 52 = .ok (.getfield 178, 3) := by decide +kernel
theorem dX9_sign_55 : decode cX9_sign 55 = .ok (.aload_n 0, 1) := by decide +kernel
theorem dX9_sign_56 : decode cX9_sign 56 = .ok (.getfield 181, 3) := by decide +kernel
theorem dX9_sign_59 : decode cX9_sign 59 = .ok (.ifCond .eq 7, 3) := by decide +kernel
theorem dX9_sign_62 : decode cX9_sign 62 = .ok (.iconst 0, 1) := by decide +kernel
theorem dX9_sign_63 : decode cX9_sign 63 = .ok (.goto 4, 3) := by decide +kernel
theorem dX9_sign_66 : decode cX9_sign 66 = .ok (.iconst 1, 1) := by decide +kernel
theorem dX9_sign_67 : decode cX9_sign 67 = .ok (.iadd, 1) := by decide +kernel
theorem dX9_sign_68 : decode cX9_sign 68 = .ok (.putfield 178, 3) := by decide +kernel
theorem dX9_sign_71 : decode cX9_sign 71 = .ok (.iload_n 3, 1) := by decide +kernel
theorem dX9_sign_72 : decode cX9_sign 72 = .ok (.ireturn, 1) := by decide +kernel
theorem dX9_isNext_0 : decode cX9_isNext 0 = .ok (.aload_n 0, 1) := by decide +kernel
theorem dX9_isNext_1 : decode cX9_isNext 1 = .ok (.getfield 181, 3) := by decide +kernel
theorem dX9_isNext_4 : decode cX9_isNext 4 = .ok (.ifCond .ne 35, 3) := by decide +kernel
theorem dX9_isNext_7 : decode cX9_isNext 7 = .ok (.aload_n 0, 1) := by decide +kernel
theorem dX9_isNext_8 : decode cX9_isNext 8 = .ok (.getfield 178, 3) := by decide +kernel
theorem dX9_isNext_11 : decode cX9_isNext 11 = .ok (.aload_n 0, 1) := by decide +kernel
theorem dX9_isNext_12 : decode cX9_isNext 12 = .ok (.getfield 167, 3) := by decide +kernel
theorem dX9_isNext_15 : decode cX9_isNext 15 = .ok (.if_icmp .ge 24, 3) := by decide +kernel
theorem dX9_isNext_18 : decode cX9_isNext 18 = .ok (.aload_n 0, 1) := by decide +kernel
theorem dX9_isNext_19 : decode cX9_isNext 19 = .ok (.getfield 26, 3) := by decide +kernel
theorem dX9_isNext_22 : decode cX9_isNext 22 = .ok (.aload_n 0, 1) := by decide +kernel
theorem dX9_isNext_23 : decode cX9_isNext 23 = .ok (.getfield 178, 3) := by decide +kernel
theorem dX9_isNext_26 : decode cX9_isNext 26 = .ok (.iaload, 1) := by decide +kernel
theorem dX9_isNext_27 : decode cX9_isNext 27 = .ok (.iload_n 1, 1) := by decide +kernel
theorem dX9_isNext_28 : decode cX9_isNext 28 = .ok (.iload_n 2, 1) := by decide +kernel
theorem dX9_isNext_29 : decode cX9_isNext 29 = .ok (.invokestatic 50, 3) := by decide +kernel
theorem dX9_isNext_32 : decode cX9_isNext 32 = .ok (.ifCond .eq 7, 3) := by decide +kernel
theorem dX9_isNext_35 : decode cX9_isNext 35 = .ok (.iconst 1, 1) := by decide +kernel
theorem dX9_isNext_36 : decode cX9_isNext 36 = .ok (.goto 4, 3) := by decide +kernel
theorem dX9_isNext_39 : decode cX9_isNext 39 = .ok (.iconst 0, 1) := by decide +kernel
theorem dX9_isNext_40 : decode cX9_isNext 40 = .ok (.ireturn, 1) := by decide +kernel
theorem dX9_number_0 : decode cX9_number 0 = .ok (.aload_n 0, 1) := by decide +kernel
theorem dX9_number_1 : decode cX9_number 1 = .ok (.bipush 48, 2) := by decide +kernel
theorem dX9_number_3 : decode cX9_number 3 = .ok (.bipush 57, 2) := by decide +kernel
theorem dX9_number_5 : decode cX9_number 5 = .ok (.invokevirtual 184, 3) := by decide +kernel
theorem dX9_number_8 : decode cX9_number 8 = .ok (.bipush 48, 2) := by decide +kernel
theorem dX9_number_10 : decode cX9_number 10 = .ok (.isub, 1) := by decide +kernel
theorem dX9_number_11 : decode cX9_number 11 = .ok (.istore_n 2, 1) := by decide +kernel
theorem dX9_number_12 : decode cX9_number 12 = .ok (.iload_n 2, 1) := by decide +kernel
theorem dX9_number_13 : decode cX9_number 13 = .ok (.ifCond .le 39, 3) := by decide +kernel
theorem dX9_number_16 : decode cX9_number 16 = .ok (.aload_n 0, 1) := by decide +kernel
theorem dX9_number_17 : decode cX9_number 17 = .ok (.bipush 48, 2) := by decide +kernel
theorem dX9_number_19 : decode cX9_number 19 = .ok (.bipush 57, 2) := by decide +kernel
theorem dX9_number_21 : decode cX9_number 21 = .ok (.invokevirtual 187, 3) := by decide +kernel
theorem dX9_number_24 : decode cX9_number 24 = .ok (.ifCond .eq 28, 3) := by decide +kernel
theorem dX9_number_27 : decode cX9_number 27 = .ok (.bipush 10, 2) := by decide +kernel
theorem dX9_number_29 : decode cX9_number 29 = .ok (.iload_n 2, 1) := by decide +kernel
theorem dX9_number_30 : decode cX9_number 30 = .ok (.imul, 1) := by decide +kernel
theorem dX9_number_31 : decode cX9_number 31 = .ok (.aload_n 0, 1) := by decide +kernel
theorem dX9_number_32 : decode cX9_number 32 = .ok (.getfield 26, 3) := by decide +kernel
theorem dX9_number_35 : decode cX9_number 35 = .ok (.aload_n 0, 1) := by decide +kernel
theorem dX9_number_36 : decode cX9_number 36 = .ok (.getfield 178, 3) := by decide +kernel
theorem dX9_number_39 : decode cX9_number 39 = .ok (.iaload, 1) := by decide +kernel
theorem dX9_number_40 : decode cX9_number 40 = .ok (.iadd, 1) := by decide +kernel
theorem dX9_number_41 : decode cX9_number 41 = .ok (.bipush 48, 2) := by decide +kernel
theorem dX9_number_43 : decode cX9_number 43 = .ok (.isub, 1) := by decide +kernel
theorem dX9_number_44 : decode cX9_number 44 = .ok (.iload_n 1, 1) := by decide +kernel
theorem dX9_number_45 : decode cX9_number 45 = .ok (.if_icmp .gt 7, 3) := by decide +kernel
theorem dX9_number_48 : decode cX9_number 48 = .ok (.iconst 1, 1) := by decide +kernel
theorem dX9_number_49 : decode cX9_number 49 = .ok (.goto 4, 3) := by decide +kernel
theorem dX9_number_52 : decode cX9_number 52 = .ok (.iconst 0, 1) := by decide +kernel
theorem dX9_number_53 : decode cX9_number 53 = .ok (.istore_n 3, 1) := by decide +kernel
theorem dX9_number_54 : decode cX9_number 54 = .ok (.iload_n 3, 1) := by decide +kernel
theorem dX9_number_55 : decode cX9_number 55 = .ok (.ifCond .eq 22, 3) := by decide +kernel
theorem dX9_number_58 : decode cX9_number 58 = .ok (.bipush 10, 2) := by decide +kernel
theorem dX9_number_60 : decode cX9_number 60 = .ok (.iload_n 2, 1) := by decide +kernel
theorem dX9_number_61 : decode cX9_number 61 = .ok (.imul, 1) := by decide +kernel
theorem dX9_number_62 : decode cX9_number 62 = .ok (.aload_n 0, 1) := by decide +kernel
theorem dX9_number_63 : decode cX9_number 63 = .ok (.bipush 48, 2) := by decide +kernel
theorem dX9_number_65 : decode cX9_number 65 = .ok (.bipush 57, 2) := by decide +kernel
theorem dX9_number_67 : decode cX9_number 67 = .ok (.invokevirtual 184, 3) := by decide +kernel
theorem dX9_number_70 : decode cX9_number 70 = .ok (.iadd, 1) := by decide +kernel
theorem dX9_number_71 : decode cX9_number 71 = .ok (.bipush 48, 2) := by decide +kernel
theorem dX9_number_73 : decode cX9_number 73 = .ok (.isub, 1) := by decide +kernel
theorem dX9_number_74 : decode cX9_number 74 = .ok (.goto 4, 3) := by decide +kernel
theorem dX9_number_77 : decode cX9_number 77 = .ok (.iload_n 2, 1) := by decide +kernel
theorem dX9_number_78 : decode cX9_number 78 = .ok (.ireturn, 1) := by decide +kernel
theorem dX9_tell_0 : decode cX9_tell 0 = .ok (.iconst 0, 1) := by decide +kernel
theorem dX9_tell_1 : decode cX9_tell 1 = .ok (.istore_n 2, 1) := by decide +kernel
theorem dX9_tell_2 : decode cX9_tell 2 = .ok (.iload_n 2, 1) := by decide +kernel
theorem dX9_tell_3 : decode cX9_tell 3 = .ok (.aload_n 0, 1) := by decide +kernel
theorem dX9_tell_4 : decode cX9_tell 4 = .ok (.getfield 190, 3) := by decide +kernel
theorem dX9_tell_7 : decode cX9_tell 7 = .ok (.if_icmp .ge 42, 3) := by decide +kernel
theorem dX9_tell_10 : decode cX9_tell 10 = .ok (.iload_n 2, 1) := by decide +kernel
theorem dX9_tell_11 : decode cX9_tell 11 = .ok (.sipush 150, 3) := by decide +kernel
theorem dX9_tell_14 : decode cX9_tell 14 = .ok (.if_icmp .ge 35, 3) := by decide +kernel
theorem dX9_tell_17 : decode cX9_tell 17 = .ok (.aload_n 0, 1) := by decide +kernel
theorem dX9_tell_18 : decode cX9_tell 18 = .ok (.aload_n 0, 1) := by decide +kernel
theorem dX9_tell_19 : decode cX9_tell 19 = .ok (.getfield 193, 3) := by decide +kernel
theorem dX9_tell_22 : decode cX9_tell 22 = .ok (.ifCond .ne 13, 3) := by decide +kernel
theorem dX9_tell_25 : decode cX9_tell 25 = .ok (.aload_n 0, 1) := by decide +kernel
theorem dX9_tell_26 : decode cX9_tell 26 = .ok (.getfield 44, 3) := by decide +kernel
theorem dX9_tell_29 : decode cX9_tell 29 = .ok (.iload_n 2, 1) := by decide +kernel
theorem dX9_tell_30 : decode cX9_tell 30 = .ok (.iaload, 1) := by decide +kernel
theorem dX9_tell_31 : decode cX9_tell 31 = .ok (.iload_n 1, 1) := by decide +kernel
theorem dX9_tell_32 : decode cX9_tell 32 = .ok (.if_icmp .ne 7, 3) := by decide +kernel
theorem dX9_tell_35 : decode cX9_tell 35 = .ok (.iconst 1, 1) := by decide +kernel
theorem dX9_tell_36 : decode cX9_tell 36 = .ok (.goto 4, 3) := by decide +kernel
theorem dX9_tell_39 : decode cX9_tell 39 = .ok (.iconst 0, 1) := by decide +kernel
theorem dX9_tell_40 : decode cX9_tell 40 = .ok (.putfield 193, 3) := by decide +kernel
theorem dX9_tell_43 : decode cX9_tell 43 = .ok (.iinc 2 1, 3) := by decide +kernel
theorem dX9_tell_46 : decode cX9_tell 46 = .ok (.goto (-44), 3) := by decide +kernel
theorem dX9_tell_49 : decode cX9_tell 49 = .ok (.aload_n 0, 1) := by decide +kernel
theorem dX9_tell_50 : decode cX9_tell 50 = .ok (.aload_n 0, 1) := by decide +kernel
theorem dX9_tell_51 : decode cX9_tell 51 = .ok (.getfield 193, 3) := by decide +kernel
theorem dX9_tell_54 : decode cX9_tell 54 = .ok (.ifCond .ne 9, 3) := by decide +kernel
theorem dX9_tell_57 : decode cX9_tell 57 = .ok (.iload_n 1, 1) := by decide +kernel
theorem dX9_tell_58 : decode cX9_tell 58 = .ok (.bipush (-6), 2) := by decide +kernel
theorem dX9_tell_60 : decode cX9_tell 60 = .ok (.if_icmp .ne 7, 3) := by decide +kernel
theorem dX9_tell_63 : decode cX9_tell 63 = .ok (.iconst 1, 1) := by decide +kernel
theorem dX9_tell_64 : decode cX9_tell 64 = .ok (.goto 4, 3) := by decide +kernel
theorem dX9_tell_67 : decode cX9_tell 67 = .ok (.iconst 0, 1) := by decide +kernel
theorem dX9_tell_68 : decode cX9_tell 68 = .ok (.putfield 193, 3) := by decide +kernel
theorem dX9_tell_71 : decode cX9_tell 71 = .ok (.aload_n 0, 1) := by decide +kernel
theorem dX9_tell_72 : decode cX9_tell 72 = .ok (.getfield 193, 3) := by decide +kernel
theorem dX9_tell_75 : decode cX9_tell 75 = .ok (.ifCond .ne 23, 3) := by decide +kernel
theorem dX9_tell_78 : decode cX9_tell 78 = .ok (.aload_n 0, 1) := by decide +kernel
theorem dX9_tell_79 : decode cX9_tell 79 = .ok (.getfield 190, 3) := by decide +kernel
theorem dX9_tell_82 : decode cX9_tell 82 = .ok (.sipush 150, 3) := by decide +kernel
theorem dX9_tell_85 : decode cX9_tell 85 = .ok (.if_icmp .ge 13, 3) := by decide +kernel
theorem dX9_tell_88 : decode cX9_tell 88 = .ok (.aload_n 0, 1) := by decide +kernel
theorem dX9_tell_89 : decode cX9_tell 89 = .ok (.getfield 44, 3) := by decide +kernel
theorem dX9_tell_92 : decode cX9_tell 92 = .ok (.aload_n 0, 1) := by decide +kernel
theorem dX9_tell_93 : decode cX9_tell 93 = .ok (.getfield 190, 3) := by decide +kernel
theorem dX9_tell_96 : decode cX9_tell 96 = .ok (.iload_n 1, 1) := by decide +kernel
theorem dX9_tell_97 : decode cX9_tell 97 = .ok (.iastore, 1) := by decide +kernel
theorem dX9_tell_98 : decode cX9_tell 98 = .ok (.aload_n 0, 1) := by decide +kernel
theorem dX9_tell_99 : decode cX9_tell 99 = .ok (.dup, 1) := by decide +kernel
theorem dX9_tell_100 : decode cX9_tell 100 = .ok (.getfield 190, 3) := by decide +kernel
theorem dX9_tell_103 : decode cX9_tell 103 = .ok (.iconst 1, 1) := by decide +kernel
theorem dX9_tell_104 : decode cX9_tell 104 = .ok (.iadd, 1) := by decide +kernel
theorem dX9_tell_105 : decode cX9_tell 105 = .ok (.putfield 190, 3) := by decide +kernel
theorem dX9_tell_108 : decode cX9_tell 108 = .ok (.return_, 1) := by decide +kernel
theorem dX9_readPad_0 : decode cX9_readPad 0 = .ok (.aload_n 0, 1) := by decide +kernel
theorem dX9_readPad_1 : decode cX9_readPad 1 = .ok (.iconst 0, 1) := by decide +kernel
theorem dX9_readPad_2 : decode cX9_readPad 2 = .ok (.putfield 178, 3) := by decide +kernel
theorem dX9_readPad_5 : decode cX9_readPad 5 = .ok (.aload_n 0, 1) := by decide +kernel
theorem dX9_readPad_6 : decode cX9_readPad 6 = .ok (.iconst 0, 1) := by decide +kernel
theorem dX9_readPad_7 : decode cX9_readPad 7 = .ok (.putfield 181, 3) := by decide +kernel
theorem dX9_readPad_10 : decode cX9_readPad 10 = .ok (.aload_n 0, 1) := by decide +kernel
theorem dX9_readPad_11 : decode cX9_readPad 11 = .ok (.iconst 0, 1) := by decide +kernel
theorem dX9_readPad_12 : decode cX9_readPad 12 = .ok (.putfield 190, 3) := by decide +kernel
theorem dX9_readPad_15 : decode cX9_readPad 15 = .ok (.aload_n 0, 1) := by decide +kernel
theorem dX9_readPad_16 : decode cX9_readPad 16 = .ok (.iconst 0, 1) := by decide +kernel
theorem dX9_readPad_17 : decode cX9_readPad 17 = .ok (.putfield 193, 3) := by decide +kernel
theorem dX9_readPad_20 : decode cX9_readPad 20 = .ok (.aload_n 0, 1) := by decide +kernel
theorem dX9_readPad_21 : decode cX9_readPad 21 = .ok (.bipush 19, 2) := by decide +kernel
theorem dX9_readPad_23 : decode cX9_readPad 23 = .ok (.invokevirtual 196, 3) := by decide +kernel
theorem dX9_readPad_26 : decode cX9_readPad 26 = .ok (.istore_n 1, 1) := by decide +kernel
theorem dX9_readPad_27 : decode cX9_readPad 27 = .ok (.aload_n 0, 1) := by decide +kernel
theorem dX9_readPad_28 : decode cX9_readPad 28 = .ok (.bipush 44, 2) := by decide +kernel
theorem dX9_readPad_30 : decode cX9_readPad 30 = .ok (.bipush 44, 2) := by decide +kernel
theorem dX9_readPad_32 : decode cX9_readPad 32 = .ok (.invokevirtual 184, 3) := by decide +kernel
theorem dX9_readPad_35 : decode cX9_readPad 35 = .ok (.istore_n 2, 1) := by decide +kernel
theorem dX9_readPad_36 : decode cX9_readPad 36 = .ok (.aload_n 0, 1) := by decide +kernel
theorem dX9_readPad_37 : decode cX9_readPad 37 = .ok (.bipush 11, 2) := by decide +kernel
theorem dX9_readPad_39 : decode cX9_readPad 39 = .ok (.invokevirtual 196, 3) := by decide +kernel
theorem dX9_readPad_42 : decode cX9_readPad 42 = .ok (.istore_n 3, 1) := by decide +kernel
theorem dX9_readPad_43 : decode cX9_readPad 43 = .ok (.aload_n 0, 1) := by decide +kernel
theorem dX9_readPad_44 : decode cX9_readPad 44 = .ok (.bipush 58, 2) := by decide +kernel
theorem dX9_readPad_46 : decode cX9_readPad 46 = .ok (.bipush 58, 2) := by decide +kernel
theorem dX9_readPad_48 : decode cX9_readPad 48 = .ok (.invokevirtual 184, 3) := by decide +kernel
theorem dX9_readPad_51 : decode cX9_readPad 51 = .ok (.istore_n 2, 1) := by decide +kernel
theorem dX9_readPad_52 : decode cX9_readPad 52 = .ok (.aload_n 0, 1) := by decide +kernel
theorem dX9_readPad_53 : decode cX9_readPad 53 = .ok (.getfield 181, 3) := by decide +kernel
theorem dX9_readPad_56 : decode cX9_readPad 56 = .ok (.ifCond .ne 13, 3) := by decide +kernel
theorem dX9_readPad_59 : decode cX9_readPad 59 = .ok (.aload_n 0, 1) := by decide +kernel
theorem dX9_readPad_60 : decode cX9_readPad 60 = .ok (.bipush 20, 2) := by decide +kernel
theorem dX9_readPad_62 : decode cX9_readPad 62 = .ok (.iload_n 3, 1) := by decide +kernel
theorem dX9_readPad_63 : decode cX9_readPad 63 = .ok (.imul, 1) := by decide +kernel
theorem dX9_readPad_64 : decode cX9_readPad 64 = .ok (.iload_n 1, 1) := by decide +kernel
theorem dX9_readPad_65 : decode cX9_readPad 65 = .ok (.iadd, 1) := by decide +kernel
theorem dX9_readPad_66 : decode cX9_readPad 66 = .ok (.invokevirtual 199, 3) := by decide +kernel
theorem dX9_readPad_69 : decode cX9_readPad 69 = .ok (.iconst 1, 1) := by decide +kernel
theorem dX9_readPad_70 : decode cX9_readPad 70 = .ok (.istore 4, 2) := by decide +kernel
theorem dX9_readPad_72 : decode cX9_readPad 72 = .ok (.iload 4, 2) := by decide +kernel
theorem dX9_readPad_74 : decode cX9_readPad 74 = .ok (.ifCond .eq 263, 3) := by decide +kernel
theorem dX9_readPad_77 : decode cX9_readPad 77 = .ok (.aload_n 0, 1) := by decide +kernel
theorem dX9_readPad_78 : decode cX9_readPad 78 = .ok (.getfield 178, 3) := by decide +kernel
theorem dX9_readPad_81 : decode cX9_readPad 81 = .ok (.aload_n 0, 1) := by decide +kernel
theorem dX9_readPad_82 : decode cX9_readPad 82 = .ok (.getfield 167, 3) := by decide +kernel
theorem dX9_readPad_85 : decode cX9_readPad 85 = .ok (.if_icmp .ge 15, 3) := by decide +kernel
theorem dX9_readPad_88 : decode cX9_readPad 88 = .ok (.aload_n 0, 1) := by decide +kernel
theorem dX9_readPad_89 : decode cX9_readPad 89 = .ok (.getfield 26, 3) := by decide +kernel
theorem dX9_readPad_92 : decode cX9_readPad 92 = .ok (.aload_n 0, 1) := by decide +kernel
theorem dX9_readPad_93 : decode cX9_readPad 93 = .ok (.getfield 178, 3) := by decide +kernel
theorem dX9_readPad_96 : decode cX9_readPad 96 = .ok (.iaload, 1) := by decide +kernel
theorem dX9_readPad_97 : decode cX9_readPad 97 = .ok (.goto 4, 3) := by decide +kernel
theorem dX9_readPad_100 : decode cX9_readPad 100 = .ok (.iconst 0, 1) := by decide +kernel
theorem dX9_readPad_101 : decode cX9_readPad 101 = .ok (.istore 5, 2) := by decide +kernel
theorem dX9_readPad_103 : decode cX9_readPad 103 = .ok (.aload_n 0, 1) := by decide +kernel
theorem dX9_readPad_104 : decode cX9_readPad 104 = .ok (.aload_n 0, 1) := by decide +kernel
theorem dX9_readPad_105 : decode cX9_readPad 105 = .ok (.getfield 181, 3) := by decide +kernel
theorem dX9_readPad_108 : decode cX9_readPad 108 = .ok (.ifCond .ne 31, 3) := by decide +kernel
theorem dX9_readPad_111 : decode cX9_readPad 111 = .ok (.iload 5, 2) := by decide +kernel
theorem dX9_readPad_113 : decode cX9_readPad 113 = .ok (.bipush 114, 2) := by decide +kernel
theorem dX9_readPad_115 : decode cX9_readPad 115 = .ok (.if_icmp .eq 28, 3) := by decide +kernel
theorem dX9_readPad_118 : decode cX9_readPad 118 = .ok (.iload 5, 2) := by decide +kernel
theorem dX9_readPad_120 : decode cX9_readPad 120 = .ok (.bipush 117, 2) := by decide +kernel
theorem dX9_readPad_122 : decode cX9_readPad 122 = .ok (.if_icmp .eq 21, 3) := by decide +kernel
theorem dX9_readPad_125 : decode cX9_readPad 125 = .ok (.iload 5, 2) := by decide +kernel
theorem dX9_readPad_127 : decode cX9_readPad 127 = .ok (.bipush 108, 2) := by decide +kernel
theorem dX9_readPad_129 : decode cX9_readPad 129 = .ok (.if_icmp .eq 14, 3) := by decide +kernel
theorem dX9_readPad_132 : decode cX9_readPad 132 = .ok (.iload 5, 2) := by decide +kernel
theorem dX9_readPad_134 : decode cX9_readPad 134 = .ok (.bipush 100, 2) := by decide +kernel
theorem dX9_readPad_136 : decode cX9_readPad 136 = .ok (.if_icmp .eq 7, 3) := by decide +kernel
theorem dX9_readPad_139 : decode cX9_readPad 139 = .ok (.iconst 1, 1) := by decide +kernel
theorem dX9_readPad_140 : decode cX9_readPad 140 = .ok (.goto 4, 3) := by decide +kernel
theorem dX9_readPad_143 : decode cX9_readPad 143 = .ok (.iconst 0, 1) := by decide +kernel
theorem dX9_readPad_144 : decode cX9_readPad 144 = .ok (.putfield 181, 3) := by decide +kernel
theorem dX9_readPad_147 : decode cX9_readPad 147 = .ok (.aload_n 0, 1) := by decide +kernel
theorem dX9_readPad_148 : decode cX9_readPad 148 = .ok (.dup, 1) := by decide +kernel
theorem dX9_readPad_149 : decode cX9_readPad 149 = .ok (.getfield 178, 3) := by decide +kernel
theorem dX9_readPad_152 : decode cX9_readPad 152 = .ok (.aload_n 0, 1) := by decide +kernel
theorem dX9_readPad_153 : decode cX9_readPad 153 = .ok (.getfield 181, 3) := by decide +kernel
theorem dX9_readPad_156 : decode cX9_readPad 156 = .ok (.ifCond .eq 7, 3) := by decide +kernel
theorem dX9_readPad_159 : decode cX9_readPad 159 = .ok (.iconst 0, 1) := by decide +kernel
theorem dX9_readPad_160 : decode cX9_readPad 160 = .ok (.goto 4, 3) := by decide +kernel
theorem dX9_readPad_163 : decode cX9_readPad 163 = .ok (.iconst 1, 1) := by decide +kernel
theorem dX9_readPad_164 : decode cX9_readPad 164 = .ok (.iadd, 1) := by decide +kernel
theorem dX9_readPad_165 : decode cX9_readPad 165 = .ok (.putfield 178, 3) := by decide +kernel
theorem dX9_readPad_168 : decode cX9_readPad 168 = .ok (.iload 5, 2) := by decide +kernel
theorem dX9_readPad_170 : decode cX9_readPad 170 = .ok (.bipush 114, 2) := by decide +kernel
theorem dX9_readPad_172 : decode cX9_readPad 172 = .ok (.if_icmp .ne 7, 3) := by decide +kernel
theorem dX9_readPad_175 : decode cX9_readPad 175 = .ok (.iconst 0, 1) := by decide +kernel
theorem dX9_readPad_176 : decode cX9_readPad 176 = .ok (.goto 26, 3) := by decide +kernel
theorem dX9_readPad_179 : decode cX9_readPad 179 = .ok (.iload 5, 2) := by decide +kernel
theorem dX9_readPad_181 : decode cX9_readPad 181 = .ok (.bipush 117, 2) := by decide +kernel
theorem dX9_readPad_183 : decode cX9_readPad 183 = .ok (.if_icmp .ne 7, 3) := by decide +kernel
theorem dX9_readPad_186 : decode cX9_readPad 186 = .ok (.iconst 1, 1) := by decide +kernel
theorem dX9_readPad_187 : decode cX9_readPad 187 = .ok (.goto 15, 3) := by decide +kernel
theorem dX9_readPad_190 : decode cX9_readPad 190 = .ok (.iload 5, 2) := by decide +kernel
theorem dX9_readPad_192 : decode cX9_readPad 192 = .ok (.bipush 108, 2) := by decide +kernel
theorem dX9_readPad_194 : decode cX9_readPad 194 = .ok (.if_icmp .ne 7, 3) := by decide +kernel
theorem dX9_readPad_197 : decode cX9_readPad 197 = .ok (.iconst 2, 1) := by decide +kernel
theorem dX9_readPad_198 : decode cX9_readPad 198 = .ok (.goto 4, 3) := by decide +kernel
theorem dX9_readPad_201 : decode cX9_readPad 201 = .ok (.iconst 3, 1) := by decide +kernel
theorem dX9_readPad_202 : decode cX9_readPad 202 = .ok (.istore 6, 2) := by decide +kernel
theorem dX9_readPad_204 : decode cX9_readPad 204 = .ok (.aload_n 0, 1) := by decide +kernel
theorem dX9_readPad_205 : decode cX9_readPad 205 = .ok (.bipush 50, 2) := by decide +kernel
theorem dX9_readPad_207 : decode cX9_readPad 207 = .ok (.bipush 57, 2) := by decide +kernel
theorem dX9_readPad_209 : decode cX9_readPad 209 = .ok (.invokevirtual 187, 3) := by decide +kernel
theorem dX9_readPad_212 : decode cX9_readPad 212 = .ok (.ifCond .eq 17, 3) := by decide +kernel
theorem dX9_readPad_215 : decode cX9_readPad 215 = .ok (.aload_n 0, 1) := by decide +kernel
theorem dX9_readPad_216 : decode cX9_readPad 216 = .ok (.bipush 50, 2) := by decide +kernel
theorem dX9_readPad_218 : decode cX9_readPad 218 = .ok (.bipush 57, 2) := by decide +kernel
theorem dX9_readPad_220 : decode cX9_readPad 220 = .ok (.invokevirtual 184, 3) := by decide +kernel
theorem dX9_readPad_223 : decode cX9_readPad 223 = .ok (.bipush 48, 2) := by decide +kernel
theorem dX9_readPad_225 : decode cX9_readPad 225 = .ok (.isub, 1) := by decide +kernel
theorem dX9_readPad_226 : decode cX9_readPad 226 = .ok (.goto 4, 3) := by decide +kernel
theorem dX9_readPad_229 : decode cX9_readPad 229 = .ok (.iconst 1, 1) := by decide +kernel
theorem dX9_readPad_230 : decode cX9_readPad 230 = .ok (.istore 7, 2) := by decide +kernel
theorem dX9_readPad_232 : decode cX9_readPad 232 = .ok (.iconst 0, 1) := by decide +kernel
theorem dX9_readPad_233 : decode cX9_readPad 233 = .ok (.istore 8, 2) := by decide +kernel
theorem dX9_readPad_235 : decode cX9_readPad 235 = .ok (.iload 8, 2) := by decide +kernel
theorem dX9_readPad_237 : decode cX9_readPad 237 = .ok (.iload 7, 2) := by decide +kernel
theorem dX9_readPad_239 : decode cX9_readPad 239 = .ok (.if_icmp .ge 70, 3) := by decide +kernel
theorem dX9_readPad_242 : decode cX9_readPad 242 = .ok (.aload_n 0, 1) := by decide +kernel
theorem dX9_readPad_243 : decode cX9_readPad 243 = .ok (.getfield 181, 3) := by decide +kernel
theorem dX9_readPad_246 : decode cX9_readPad 246 = .ok (.ifCond .ne 63, 3) := by decide +kernel
theorem dX9_readPad_249 : decode cX9_readPad 249 = .ok (.aload_n 0, 1) := by decide +kernel
theorem dX9_readPad_250 : decode cX9_readPad 250 = .ok (.getfield 193, 3) := by decide +kernel
theorem dX9_readPad_253 : decode cX9_readPad 253 = .ok (.ifCond .ne 13, 3) := by decide +kernel
theorem dX9_readPad_256 : decode cX9_readPad 256 = .ok (.aload_n 0, 1) := by decide +kernel
theorem dX9_readPad_257 : decode cX9_readPad 257 = .ok (.getfield 190, 3) := by decide +kernel
theorem dX9_readPad_260 : decode cX9_readPad 260 = .ok (.sipush 150, 3) := by decide +kernel
theorem dX9_readPad_263 : decode cX9_readPad 263 = .ok (.if_icmp .le 7, 3) := by decide +kernel
theorem dX9_readPad_266 : decode cX9_readPad 266 = .ok (.iconst 1, 1) := by decide +kernel
theorem dX9_readPad_267 : decode cX9_readPad 267 = .ok (.goto 4, 3) := by decide +kernel
theorem dX9_readPad_270 : decode cX9_readPad 270 = .ok (.iconst 0, 1) := by decide +kernel
theorem dX9_readPad_271 : decode cX9_readPad 271 = .ok (.istore 9, 2) := by decide +kernel
theorem dX9_readPad_273 : decode cX9_readPad 273 = .ok (.aload_n 0, 1) := by decide +kernel
theorem dX9_readPad_274 : decode cX9_readPad 274 = .ok (.iload 9, 2) := by decide +kernel
theorem dX9_readPad_276 : decode cX9_readPad 276 = .ok (.ifCond .eq 8, 3) := by decide +kernel
theorem dX9_readPad_279 : decode cX9_readPad 279 = .ok (.bipush (-6), 2) := by decide +kernel
theorem dX9_readPad_281 : decode cX9_readPad 281 = .ok (.goto 19, 3) := by decide +kernel
theorem dX9_readPad_284 : decode cX9_readPad 284 = .ok (.aload_n 0, 1) := by decide +kernel
theorem dX9_readPad_285 : decode cX9_readPad 285 = .ok (.getfield 44, 3) := by decide +kernel
theorem dX9_readPad_288 : decode cX9_readPad 288 = .ok (.aload_n 0, 1) := by decide +kernel
theorem dX9_readPad_289 : decode cX9_readPad 289 = .ok (.getfield 190, 3) := by decide +kernel
theorem dX9_readPad_292 : decode cX9_readPad 292 = .ok (.iconst 1, 1) := by decide +kernel
theorem dX9_readPad_293 : decode cX9_readPad 293 = .ok (.isub, 1) := by decide +kernel
theorem dX9_readPad_294 : decode cX9_readPad 294 = .ok (.iaload, 1) := by decide +kernel
theorem dX9_readPad_295 : decode cX9_readPad 295 = .ok (.iload 6, 2) := by decide +kernel
theorem dX9_readPad_297 : decode cX9_readPad 297 = .ok (.invokestatic 72, 3) := by decide +kernel
theorem dX9_readPad_300 : decode cX9_readPad 300 = .ok (.invokevirtual 199, 3) := by decide +kernel
theorem dX9_readPad_303 : decode cX9_readPad 303 = .ok (.iinc 8 1, 3) := by decide +kernel
theorem dX9_readPad_306 : decode cX9_readPad 306 = .ok (.goto (-71), 3) := by decide +kernel
theorem dX9_readPad_309 : decode cX9_readPad 309 = .ok (.aload_n 0, 1) := by decide +kernel
theorem dX9_readPad_310 : decode cX9_readPad 310 = .ok (.getfield 181, 3) := by decide +kernel
theorem dX9_readPad_313 : decode cX9_readPad 313 = .ok (.ifCond .ne 18, 3) := by decide +kernel
theorem dX9_readPad_316 : decode cX9_readPad 316 = .ok (.aload_n 0, 1) := by decide +kernel
theorem dX9_readPad_317 : decode cX9_readPad 317 = .ok (.getfield 178, 3) := by decide +kernel
theorem dX9_readPad_320 : decode cX9_readPad 320 = .ok (.aload_n 0, 1) := by decide +kernel
theorem dX9_readPad_321 : decode cX9_readPad 321 = .ok (.getfield 167, 3) := by decide +kernel
theorem dX9_readPad_324 : decode cX9_readPad 324 = .ok (.if_icmp .ge 7, 3) := by decide +kernel
theorem dX9_readPad_327 : decode cX9_readPad 327 = .ok (.iconst 1, 1) := by decide +kernel
theorem dX9_readPad_328 : decode cX9_readPad 328 = .ok (.goto 4, 3) := by decide +kernel
theorem dX9_readPad_331 : decode cX9_readPad 331 = .ok (.iconst 0, 1) := by decide +kernel
theorem dX9_readPad_332 : decode cX9_readPad 332 = .ok (.istore 4, 2) := by decide +kernel
theorem dX9_readPad_334 : decode cX9_readPad 334 = .ok (.goto (-262), 3) := by decide +kernel
theorem dX9_readPad_337 : decode cX9_readPad 337 = .ok (.return_, 1) := by decide +kernel
theorem dX9_fault_0 : decode cX9_fault 0 = .ok (.aload_n 0, 1) := by decide +kernel
theorem dX9_fault_1 : decode cX9_fault 1 = .ok (.invokevirtual 202, 3) := by decide +kernel
theorem dX9_fault_4 : decode cX9_fault 4 = .ok (.aload_n 0, 1) := by decide +kernel
theorem dX9_fault_5 : decode cX9_fault 5 = .ok (.getfield 181, 3) := by decide +kernel
theorem dX9_fault_8 : decode cX9_fault 8 = .ok (.ifCond .eq 10, 3) := by decide +kernel
theorem dX9_fault_11 : decode cX9_fault 11 = .ok (.aload_n 0, 1) := by decide +kernel
theorem dX9_fault_12 : decode cX9_fault 12 = .ok (.getfield 178, 3) := by decide +kernel
theorem dX9_fault_15 : decode cX9_fault 15 = .ok (.goto 5, 3) := by decide +kernel
theorem dX9_fault_18 : decode cX9_fault 18 = .ok (.bipush (-6), 2) := by decide +kernel
theorem dX9_fault_20 : decode cX9_fault 20 = .ok (.ireturn, 1) := by decide +kernel
theorem dX9_read_0 : decode cX9_read 0 = .ok (.aload_n 0, 1) := by decide +kernel
theorem dX9_read_1 : decode cX9_read 1 = .ok (.invokevirtual 202, 3) := by decide +kernel
theorem dX9_read_4 : decode cX9_read 4 = .ok (.aload_n 0, 1) := by decide +kernel
theorem dX9_read_5 : decode cX9_read 5 = .ok (.getfield 181, 3) := by decide +kernel
theorem dX9_read_8 : decode cX9_read 8 = .ok (.ifCond .eq 6, 3) := by decide +kernel
theorem dX9_read_11 : decode cX9_read 11 = .ok (.bipush (-3), 2) := by decide +kernel
theorem dX9_read_13 : decode cX9_read 13 = .ok (.ireturn, 1) := by decide +kernel
theorem dX9_read_14 : decode cX9_read 14 = .ok (.aload_n 0, 1) := by decide +kernel
theorem dX9_read_15 : decode cX9_read 15 = .ok (.getfield 190, 3) := by decide +kernel
theorem dX9_read_18 : decode cX9_read 18 = .ok (.sipush 150, 3) := by decide +kernel
theorem dX9_read_21 : decode cX9_read 21 = .ok (.if_icmp .le 6, 3) := by decide +kernel
theorem dX9_read_24 : decode cX9_read 24 = .ok (.bipush (-4), 2) := by decide +kernel
theorem dX9_read_26 : decode cX9_read 26 = .ok (.ireturn, 1) := by decide +kernel
theorem dX9_read_27 : decode cX9_read 27 = .ok (.aload_n 0, 1) := by decide +kernel
theorem dX9_read_28 : decode cX9_read 28 = .ok (.getfield 193, 3) := by decide +kernel
theorem dX9_read_31 : decode cX9_read 31 = .ok (.ifCond .eq 6, 3) := by decide +kernel
theorem dX9_read_34 : decode cX9_read 34 = .ok (.bipush (-5), 2) := by decide +kernel
theorem dX9_read_36 : decode cX9_read 36 = .ok (.ireturn, 1) := by decide +kernel
theorem dX9_read_37 : decode cX9_read 37 = .ok (.aload_n 0, 1) := by decide +kernel
theorem dX9_read_38 : decode cX9_read 38 = .ok (.invokevirtual 139, 3) := by decide +kernel
theorem dX9_read_41 : decode cX9_read 41 = .ok (.aload_n 0, 1) := by decide +kernel
theorem dX9_read_42 : decode cX9_read 42 = .ok (.invokevirtual 47, 3) := by decide +kernel
theorem dX9_read_45 : decode cX9_read 45 = .ok (.aload_n 0, 1) := by decide +kernel
theorem dX9_read_46 : decode cX9_read 46 = .ok (.getfield 7, 3) := by decide +kernel
theorem dX9_read_49 : decode cX9_read 49 = .ok (.iconst 4, 1) := by decide +kernel
theorem dX9_read_50 : decode cX9_read 50 = .ok (.aload_n 0, 1) := by decide +kernel
theorem dX9_read_51 : decode cX9_read 51 = .ok (.getfield 190, 3) := by decide +kernel
theorem dX9_read_54 : decode cX9_read 54 = .ok (.iastore, 1) := by decide +kernel
theorem dX9_read_55 : decode cX9_read 55 = .ok (.iconst 0, 1) := by decide +kernel
theorem dX9_read_56 : decode cX9_read 56 = .ok (.istore_n 1, 1) := by decide +kernel
theorem dX9_read_57 : decode cX9_read 57 = .ok (.iload_n 1, 1) := by decide +kernel
theorem dX9_read_58 : decode cX9_read 58 = .ok (.aload_n 0, 1) := by decide +kernel
theorem dX9_read_59 : decode cX9_read 59 = .ok (.getfield 190, 3) := by decide +kernel
theorem dX9_read_62 : decode cX9_read 62 = .ok (.if_icmp .ge 23, 3) := by decide +kernel
theorem dX9_read_65 : decode cX9_read 65 = .ok (.aload_n 0, 1) := by decide +kernel
theorem dX9_read_66 : decode cX9_read 66 = .ok (.getfield 7, 3) := by decide +kernel
theorem dX9_read_69 : decode cX9_read 69 = .ok (.iconst 5, 1) := by decide +kernel
theorem dX9_read_70 : decode cX9_read 70 = .ok (.iload_n 1, 1) := by decide +kernel
theorem dX9_read_71 : decode cX9_read 71 = .ok (.iadd, 1) := by decide +kernel
theorem dX9_read_72 : decode cX9_read 72 = .ok (.aload_n 0, 1) := by decide +kernel
theorem dX9_read_73 : decode cX9_read 73 = .ok (.getfield 44, 3) := by decide +kernel
theorem dX9_read_76 : decode cX9_read 76 = .ok (.iload_n 1, 1) := by decide +kernel
theorem dX9_read_77 : decode cX9_read 77 = .ok (.iaload, 1) := by decide +kernel
theorem dX9_read_78 : decode cX9_read 78 = .ok (.iastore, 1) := by decide +kernel
theorem dX9_read_79 : decode cX9_read 79 = .ok (.iinc 1 1, 3) := by decide +kernel
theorem dX9_read_82 : decode cX9_read 82 = .ok (.goto (-25), 3) := by decide +kernel
theorem dX9_read_85 : decode cX9_read 85 = .ok (.aload_n 0, 1) := by decide +kernel
theorem dX9_read_86 : decode cX9_read 86 = .ok (.iconst 0, 1) := by decide +kernel
theorem dX9_read_87 : decode cX9_read 87 = .ok (.putfield 167, 3) := by decide +kernel
theorem dX9_read_90 : decode cX9_read 90 = .ok (.aload_n 0, 1) := by decide +kernel
theorem dX9_read_91 : decode cX9_read 91 = .ok (.getfield 190, 3) := by decide +kernel
theorem dX9_read_94 : decode cX9_read 94 = .ok (.ireturn, 1) := by decide +kernel
theorem dX9_undo_0 : decode cX9_undo 0 = .ok (.aload_n 0, 1) := by decide +kernel
theorem dX9_undo_1 : decode cX9_undo 1 = .ok (.getfield 54, 3) := by decide +kernel
theorem dX9_undo_4 : decode cX9_undo 4 = .ok (.ifCond .ne 6, 3) := by decide +kernel
theorem dX9_undo_7 : decode cX9_undo 7 = .ok (.bipush (-5), 2) := by decide +kernel
theorem dX9_undo_9 : decode cX9_undo 9 = .ok (.ireturn, 1) := by decide +kernel
theorem dX9_undo_10 : decode cX9_undo 10 = .ok (.aload_n 0, 1) := by decide +kernel
theorem dX9_undo_11 : decode cX9_undo 11 = .ok (.dup, 1) := by decide +kernel
theorem dX9_undo_12 : decode cX9_undo 12 = .ok (.getfield 54, 3) := by decide +kernel
theorem dX9_undo_15 : decode cX9_undo 15 = .ok (.iconst 1, 1) := by decide +kernel
theorem dX9_undo_16 : decode cX9_undo 16 = .ok (.isub, 1) := by decide +kernel
theorem dX9_undo_17 : decode cX9_undo 17 = .ok (.putfield 54, 3) := by decide +kernel
theorem dX9_undo_20 : decode cX9_undo 20 = .ok (.iconst 0, 1) := by decide +kernel
theorem dX9_undo_21 : decode cX9_undo 21 = .ok (.istore_n 1, 1) := by decide +kernel
theorem dX9_undo_22 : decode cX9_undo 22 = .ok (.iload_n 1, 1) := by decide +kernel
theorem dX9_undo_23 : decode cX9_undo 23 = .ok (.sipush 1407, 3) := by decide +kernel
theorem dX9_undo_26 : decode cX9_undo 26 = .ok (.if_icmp .ge 30, 3) := by decide +kernel
theorem dX9_undo_29 : decode cX9_undo 29 = .ok (.aload_n 0, 1) := by decide +kernel
theorem dX9_undo_30 : decode cX9_undo 30 = .ok (.getfield 7, 3) := by decide +kernel
theorem dX9_undo_33 : decode cX9_undo 33 = .ok (.iload_n 1, 1) := by decide +kernel
theorem dX9_undo_34 : decode cX9_undo 34 = .ok (.aload_n 0, 1) := by decide +kernel
theorem dX9_undo_35 : decode cX9_undo 35 = .ok (.getfield 16, 3) := by decide +kernel
theorem dX9_undo_38 : decode cX9_undo 38 = .ok (.sipush 1407, 3) := by decide +kernel
theorem dX9_undo_41 : decode cX9_undo 41 = .ok (.aload_n 0, 1) := by decide +kernel
theorem dX9_undo_42 : decode cX9_undo 42 = .ok (.getfield 54, 3) := by decide +kernel
theorem dX9_undo_45 : decode cX9_undo 45 = .ok (.imul, 1) := by decide +kernel
theorem dX9_undo_46 : decode cX9_undo 46 = .ok (.iload_n 1, 1) := by decide +kernel
theorem dX9_undo_47 : decode cX9_undo 47 = .ok (.iadd, 1) := by decide +kernel
theorem dX9_undo_48 : decode cX9_undo 48 = .ok (.iaload, 1) := by decide +kernel
theorem dX9_undo_49 : decode cX9_undo 49 = .ok (.iastore, 1) := by decide +kernel
theorem dX9_undo_50 : decode cX9_undo 50 = .ok (.iinc 1 1, 3) := by decide +kernel
theorem dX9_undo_53 : decode cX9_undo 53 = .ok (.goto (-31), 3) := by decide +kernel
theorem dX9_undo_56 : decode cX9_undo 56 = .ok (.aload_n 0, 1) := by decide +kernel
theorem dX9_undo_57 : decode cX9_undo 57 = .ok (.getfield 54, 3) := by decide +kernel
theorem dX9_undo_60 : decode cX9_undo 60 = .ok (.ireturn, 1) := by decide +kernel
theorem dX9_save_0 : decode cX9_save 0 = .ok (.iload_n 1, 1) := by decide +kernel
theorem dX9_save_1 : decode cX9_save 1 = .ok (.iconst 0, 1) := by decide +kernel
theorem dX9_save_2 : decode cX9_save 2 = .ok (.iconst 1, 1) := by decide +kernel
theorem dX9_save_3 : decode cX9_save 3 = .ok (.invokestatic 50, 3) := by decide +kernel
theorem dX9_save_6 : decode cX9_save 6 = .ok (.ifCond .ne 6, 3) := by decide +kernel
theorem dX9_save_9 : decode cX9_save 9 = .ok (.bipush (-2), 2) := by decide +kernel
theorem dX9_save_11 : decode cX9_save 11 = .ok (.ireturn, 1) := by decide +kernel
theorem dX9_save_12 : decode cX9_save 12 = .ok (.iconst 0, 1) := by decide +kernel
theorem dX9_save_13 : decode cX9_save 13 = .ok (.istore_n 2, 1) := by decide +kernel
theorem dX9_save_14 : decode cX9_save 14 = .ok (.iload_n 2, 1) := by decide +kernel
theorem dX9_save_15 : decode cX9_save 15 = .ok (.sipush 1407, 3) := by decide +kernel
theorem dX9_save_18 : decode cX9_save 18 = .ok (.if_icmp .ge 27, 3) := by decide +kernel
theorem dX9_save_21 : decode cX9_save 21 = .ok (.aload_n 0, 1) := by decide +kernel
theorem dX9_save_22 : decode cX9_save 22 = .ok (.getfield 19, 3) := by decide +kernel
theorem dX9_save_25 : decode cX9_save 25 = .ok (.sipush 1407, 3) := by decide +kernel
theorem dX9_save_28 : decode cX9_save 28 = .ok (.iload_n 1, 1) := by decide +kernel
theorem dX9_save_29 : decode cX9_save 29 = .ok (.imul, 1) := by decide +kernel
theorem dX9_save_30 : decode cX9_save 30 = .ok (.iload_n 2, 1) := by decide +kernel
theorem dX9_save_31 : decode cX9_save 31 = .ok (.iadd, 1) := by decide +kernel
theorem dX9_save_32 : decode cX9_save 32 = .ok (.aload_n 0, 1) := by decide +kernel
theorem dX9_save_33 : decode cX9_save 33 = .ok (.getfield 7, 3) := by decide +kernel
theorem dX9_save_36 : decode cX9_save 36 = .ok (.iload_n 2, 1) := by decide +kernel
theorem dX9_save_37 : decode cX9_save 37 = .ok (.iaload, 1) := by decide +kernel
theorem dX9_save_38 : decode cX9_save 38 = .ok (.iastore, 1) := by decide +kernel
theorem dX9_save_39 : decode cX9_save 39 = .ok (.iinc 2 1, 3) := by decide +kernel
theorem dX9_save_42 : decode cX9_save 42 = .ok (.goto (-28), 3) := by decide +kernel
theorem dX9_save_45 : decode cX9_save 45 = .ok (.aload_n 0, 1) := by decide +kernel
theorem dX9_save_46 : decode cX9_save 46 = .ok (.getfield 22, 3) := by decide +kernel
theorem dX9_save_49 : decode cX9_save 49 = .ok (.iload_n 1, 1) := by decide +kernel
theorem dX9_save_50 : decode cX9_save 50 = .ok (.iconst 1, 1) := by decide +kernel
theorem dX9_save_51 : decode cX9_save 51 = .ok (.bastore, 1) := by decide +kernel
theorem dX9_save_52 : decode cX9_save 52 = .ok (.aload_n 0, 1) := by decide +kernel
theorem dX9_save_53 : decode cX9_save 53 = .ok (.getfield 7, 3) := by decide +kernel
theorem dX9_save_56 : decode cX9_save 56 = .ok (.iconst 4, 1) := by decide +kernel
theorem dX9_save_57 : decode cX9_save 57 = .ok (.iaload, 1) := by decide +kernel
theorem dX9_save_58 : decode cX9_save 58 = .ok (.ireturn, 1) := by decide +kernel
theorem dX9_restore_0 : decode cX9_restore 0 = .ok (.iload_n 1, 1) := by decide +kernel
theorem dX9_restore_1 : decode cX9_restore 1 = .ok (.iconst 0, 1) := by decide +kernel
theorem dX9_restore_2 : decode cX9_restore 2 = .ok (.iconst 1, 1) := by decide +kernel
theorem dX9_restore_3 : decode cX9_restore 3 = .ok (.invokestatic 50, 3) := by decide +kernel
theorem dX9_restore_6 : decode cX9_restore 6 = .ok (.ifCond .ne 6, 3) := by decide +kernel
theorem dX9_restore_9 : decode cX9_restore 9 = .ok (.bipush (-2), 2) := by decide +kernel
theorem dX9_restore_11 : decode cX9_restore 11 = .ok (.ireturn, 1) := by decide +kernel
theorem dX9_restore_12 : decode cX9_restore 12 = .ok (.aload_n 0, 1) := by decide +kernel
theorem dX9_restore_13 : decode cX9_restore 13 = .ok (.getfield 22, 3) := by decide +kernel
theorem dX9_restore_16 : decode cX9_restore 16 = .ok (.iload_n 1, 1) := by decide +kernel
theorem dX9_restore_17 : decode cX9_restore 17 = .ok (.baload, 1) := by decide +kernel
theorem dX9_restore_18 : decode cX9_restore 18 = .ok (.ifCond .ne 6, 3) := by decide +kernel
theorem dX9_restore_21 : decode cX9_restore 21 = .ok (.bipush (-5), 2) := by decide +kernel
theorem dX9_restore_23 : decode cX9_restore 23 = .ok (.ireturn, 1) := by decide +kernel
theorem dX9_restore_24 : decode cX9_restore 24 = .ok (.aload_n 0, 1) := by decide +kernel
theorem dX9_restore_25 : decode cX9_restore 25 = .ok (.invokevirtual 139, 3) := by decide +kernel
theorem dX9_restore_28 : decode cX9_restore 28 = .ok (.iconst 0, 1) := by decide +kernel
theorem dX9_restore_29 : decode cX9_restore 29 = .ok (.istore_n 2, 1) := by decide +kernel
theorem dX9_restore_30 : decode cX9_restore 30 = .ok (.iload_n 2, 1) := by decide +kernel
theorem dX9_restore_31 : decode cX9_restore 31 = .ok (.sipush 1407, 3) := by decide +kernel
theorem dX9_restore_34 : decode cX9_restore 34 = .ok (.if_icmp .ge 27, 3) := by decide +kernel
theorem dX9_restore_37 : decode cX9_restore 37 = .ok (.aload_n 0, 1) := by decide +kernel
theorem dX9_restore_38 : decode cX9_restore 38 = .ok (.getfield 7, 3) := by decide +kernel
theorem dX9_restore_41 : decode cX9_restore 41 = .ok (.iload_n 2, 1) := by decide +kernel
theorem dX9_restore_42 : decode cX9_restore 42 = .ok (.aload_n 0, 1) := by decide +kernel
theorem dX9_restore_43 : decode cX9_restore 43 = .ok (.getfield 19, 3) := by decide +kernel
theorem dX9_restore_46 : decode cX9_restore 46 = .ok (.sipush 1407, 3) := by decide +kernel
theorem dX9_restore_49 : decode cX9_restore 49 = .ok (.iload_n 1, 1) := by decide +kernel
theorem dX9_restore_50 : decode cX9_restore 50 = .ok (.imul, 1) := by decide +kernel
theorem dX9_restore_51 : decode cX9_restore 51 = .ok (.iload_n 2, 1) := by decide +kernel
theorem dX9_restore_52 : decode cX9_restore 52 = .ok (.iadd, 1) := by decide +kernel
theorem dX9_restore_53 : decode cX9_restore 53 = .ok (.iaload, 1) := by decide +kernel
theorem dX9_restore_54 : decode cX9_restore 54 = .ok (.iastore, 1) := by decide +kernel
theorem dX9_restore_55 : decode cX9_restore 55 = .ok (.iinc 2 1, 3) := by decide +kernel
theorem dX9_restore_58 : decode cX9_restore 58 = .ok (.goto (-28), 3) := by decide +kernel
theorem dX9_restore_61 : decode cX9_restore 61 = .ok (.aload_n 0, 1) := by decide +kernel
theorem dX9_restore_62 : decode cX9_restore 62 = .ok (.getfield 7, 3) := by decide +kernel
theorem dX9_restore_65 : decode cX9_restore 65 = .ok (.iconst 4, 1) := by decide +kernel
theorem dX9_restore_66 : decode cX9_restore 66 = .ok (.iaload, 1) := by decide +kernel
theorem dX9_restore_67 : decode cX9_restore 67 = .ok (.ireturn, 1) := by decide +kernel
theorem dL_law_0 : decode cL_law 0 = .ok (.new 7, 3) := by decide +kernel
theorem dL_law_3 : decode cL_law 3 = .ok (.dup, 1) := by decide +kernel
theorem dL_law_4 : decode cL_law 4 = .ok (.invokespecial 9, 3) := by decide +kernel
theorem dL_law_7 : decode cL_law 7 = .ok (.astore_n 1, 1) := by decide +kernel
theorem dL_law_8 : decode cL_law 8 = .ok (.new 10, 3) := by decide +kernel
theorem dL_law_11 : decode cL_law 11 = .ok (.dup, 1) := by decide +kernel
theorem dL_law_12 : decode cL_law 12 = .ok (.invokespecial 12, 3) := by decide +kernel
theorem dL_law_15 : decode cL_law 15 = .ok (.astore_n 2, 1) := by decide +kernel
theorem dL_law_16 : decode cL_law 16 = .ok (.iconst 0, 1) := by decide +kernel
theorem dL_law_17 : decode cL_law 17 = .ok (.istore_n 3, 1) := by decide +kernel
theorem dL_law_18 : decode cL_law 18 = .ok (.iload_n 3, 1) := by decide +kernel
theorem dL_law_19 : decode cL_law 19 = .ok (.aload_n 0, 1) := by decide +kernel
theorem dL_law_20 : decode cL_law 20 = .ok (.arraylength, 1) := by decide +kernel
theorem dL_law_21 : decode cL_law 21 = .ok (.iconst 4, 1) := by decide +kernel
theorem dL_law_22 : decode cL_law 22 = .ok (.isub, 1) := by decide +kernel
theorem dL_law_23 : decode cL_law 23 = .ok (.if_icmp .gt 767, 3) := by decide +kernel
theorem dL_law_26 : decode cL_law 26 = .ok (.aload_n 0, 1) := by decide +kernel
theorem dL_law_27 : decode cL_law 27 = .ok (.iload_n 3, 1) := by decide +kernel
theorem dL_law_28 : decode cL_law 28 = .ok (.iaload, 1) := by decide +kernel
theorem dL_law_29 : decode cL_law 29 = .ok (.bipush 31, 2) := by decide +kernel
theorem dL_law_31 : decode cL_law 31 = .ok (.iand, 1) := by decide +kernel
theorem dL_law_32 : decode cL_law 32 = .ok (.tableswitch 752 0 21 #[104, 137, 150, 209, 258, 281, 304, 347, 380, 413, 446, 479, 502, 525, 558, 581, 614, 667, 680, 693, 706, 729], 104) := by decide +kernel
theorem dL_law_136 : decode cL_law 136 = .ok (.aload_n 1, 1) := by decide +kernel
theorem dL_law_137 : decode cL_law 137 = .ok (.aload_n 0, 1) := by decide +kernel
theorem dL_law_138 : decode cL_law 138 = .ok (.iload_n 3, 1) := by decide +kernel
theorem dL_law_139 : decode cL_law 139 = .ok (.iconst 1, 1) := by decide +kernel
theorem dL_law_140 : decode cL_law 140 = .ok (.iadd, 1) := by decide +kernel
theorem dL_law_141 : decode cL_law 141 = .ok (.iaload, 1) := by decide +kernel
theorem dL_law_142 : decode cL_law 142 = .ok (.aload_n 0, 1) := by decide +kernel
theorem dL_law_143 : decode cL_law 143 = .ok (.iload_n 3, 1) := by decide +kernel
theorem dL_law_144 : decode cL_law 144 = .ok (.iconst 2, 1) := by decide +kernel
theorem dL_law_145 : decode cL_law 145 = .ok (.iadd, 1) := by decide +kernel
theorem dL_law_146 : decode cL_law 146 = .ok (.iaload, 1) := by decide +kernel
theorem dL_law_147 : decode cL_law 147 = .ok (.invokevirtual 13, 3) := by decide +kernel
theorem dL_law_150 : decode cL_law 150 = .ok (.aload_n 2, 1) := by decide +kernel
theorem dL_law_151 : decode cL_law 151 = .ok (.aload_n 0, 1) := by decide +kernel
theorem dL_law_152 : decode cL_law 152 = .ok (.iload_n 3, 1) := by decide +kernel
theorem dL_law_153 : decode cL_law 153 = .ok (.iconst 1, 1) := by decide +kernel
theorem dL_law_154 : decode cL_law 154 = .ok (.iadd, 1) := by decide +kernel
theorem dL_law_155 : decode cL_law 155 = .ok (.iaload, 1) := by decide +kernel
theorem dL_law_156 : decode cL_law 156 = .ok (.aload_n 0, 1) := by decide +kernel
theorem dL_law_157 : decode cL_law 157 = .ok (.iload_n 3, 1) := by decide +kernel
theorem dL_law_158 : decode cL_law 158 = .ok (.iconst 2, 1) := by decide +kernel
theorem dL_law_159 : decode cL_law 159 = .ok (.iadd, 1) := by decide +kernel
theorem dL_law_160 : decode cL_law 160 = .ok (.iaload, 1) := by decide +kernel
theorem dL_law_161 : decode cL_law 161 = .ok (.invokevirtual 17, 3) := by decide +kernel
theorem dL_law_164 : decode cL_law 164 = .ok (.if_icmp .eq 620, 3) := by decide +kernel
theorem dL_law_167 : decode cL_law 167 = .ok (.iconst 0, 1) := by decide +kernel
theorem dL_law_168 : decode cL_law 168 = .ok (.ireturn, 1) := by decide +kernel
theorem dL_law_169 : decode cL_law 169 = .ok (.aload_n 1, 1) := by decide +kernel
theorem dL_law_170 : decode cL_law 170 = .ok (.invokevirtual 18, 3) := by decide +kernel
theorem dL_law_173 : decode cL_law 173 = .ok (.aload_n 2, 1) := by decide +kernel
theorem dL_law_174 : decode cL_law 174 = .ok (.invokevirtual 22, 3) := by decide +kernel
theorem dL_law_177 : decode cL_law 177 = .ok (.if_icmp .eq 607, 3) := by decide +kernel
theorem dL_law_180 : decode cL_law 180 = .ok (.iconst 0, 1) := by decide +kernel
theorem dL_law_181 : decode cL_law 181 = .ok (.ireturn, 1) := by decide +kernel
theorem dL_law_182 : decode cL_law 182 = .ok (.aload_n 1, 1) := by decide +kernel
theorem dL_law_183 : decode cL_law 183 = .ok (.aload_n 0, 1) := by decide +kernel
theorem dL_law_184 : decode cL_law 184 = .ok (.iload_n 3, 1) := by decide +kernel
theorem dL_law_185 : decode cL_law 185 = .ok (.iconst 1, 1) := by decide +kernel
theorem dL_law_186 : decode cL_law 186 = .ok (.iadd, 1) := by decide +kernel
theorem dL_law_187 : decode cL_law 187 = .ok (.iaload, 1) := by decide +kernel
theorem dL_law_188 : decode cL_law 188 = .ok (.aload_n 0, 1) := by decide +kernel
theorem dL_law_189 : decode cL_law 189 = .ok (.iload_n 3, 1) := by decide +kernel
theorem dL_law_190 : decode cL_law 190 = .ok (.iconst 2, 1) := by decide +kernel
theorem dL_law_191 : decode cL_law 191 = .ok (.iadd, 1) := by decide +kernel
theorem dL_law_192 : decode cL_law 192 = .ok (.iaload, 1) := by decide +kernel
theorem dL_law_193 : decode cL_law 193 = .ok (.aload_n 0, 1) := by decide +kernel
theorem dL_law_194 : decode cL_law 194 = .ok (.iload_n 3, 1) := by decide +kernel
theorem dL_law_195 : decode cL_law 195 = .ok (.iconst 3, 1) := by decide +kernel
theorem dL_law_196 : decode cL_law 196 = .ok (.iadd, 1) := by decide +kernel
theorem dL_law_197 : decode cL_law 197 = .ok (.iaload, 1) := by decide +kernel
theorem dL_law_198 : decode cL_law 198 = .ok (.ifCond .eq 7, 3) := by decide +kernel
theorem dL_law_201 : decode cL_law 201 = .ok (.iconst 1, 1) := by decide +kernel
theorem dL_law_202 : decode cL_law 202 = .ok (.goto 4, 3) := by decide +kernel
theorem dL_law_205 : decode cL_law 205 = .ok (.iconst 0, 1) := by decide +kernel
theorem dL_law_206 : decode cL_law 206 = .ok (.invokevirtual 23, 3) := by decide +kernel
theorem dL_law_209 : decode cL_law 209 = .ok (.aload_n 2, 1) := by decide +kernel
theorem dL_law_210 : decode cL_law 210 = .ok (.aload_n 0, 1) := by decide +kernel
theorem dL_law_211 : decode cL_law 211 = .ok (.iload_n 3, 1) := by decide +kernel
theorem dL_law_212 : decode cL_law 212 = .ok (.iconst 1, 1) := by decide +kernel
theorem dL_law_213 : decode cL_law 213 = .ok (.iadd, 1) := by decide +kernel
theorem dL_law_214 : decode cL_law 214 = .ok (.iaload, 1) := by decide +kernel
theorem dL_law_215 : decode cL_law 215 = .ok (.aload_n 0, 1) := by decide +kernel
theorem dL_law_216 : decode cL_law 216 = .ok (.iload_n 3, 1) := by decide +kernel
theorem dL_law_217 : decode cL_law 217 = .ok (.iconst 2, 1) := by decide +kernel
theorem dL_law_218 : decode cL_law 218 = .ok (.iadd, 1) := by decide +kernel
theorem dL_law_219 : decode cL_law 219 = .ok (.iaload, 1) := by decide +kernel
theorem dL_law_220 : decode cL_law 220 = .ok (.aload_n 0, 1) := by decide +kernel
theorem dL_law_221 : decode cL_law 221 = .ok (.iload_n 3, 1) := by decide +kernel
theorem dL_law_222 : decode cL_law 222 = .ok (.iconst 3, 1) := by decide +kernel
theorem dL_law_223 : decode cL_law 223 = .ok (.iadd, 1) := by decide +kernel
theorem dL_law_224 : decode cL_law 224 = .ok (.iaload, 1) := by decide +kernel
theorem dL_law_225 : decode cL_law 225 = .ok (.ifCond .eq 7, 3) := by decide +kernel
theorem dL_law_228 : decode cL_law 228 = .ok (.iconst 1, 1) := by decide +kernel
theorem dL_law_229 : decode cL_law 229 = .ok (.goto 4, 3) := by decide +kernel
theorem dL_law_232 : decode cL_law 232 = .ok (.iconst 0, 1) := by decide +kernel
theorem dL_law_233 : decode cL_law 233 = .ok (.invokevirtual 27, 3) := by decide +kernel
theorem dL_law_236 : decode cL_law 236 = .ok (.if_icmp .eq 548, 3) := by decide +kernel
theorem dL_law_239 : decode cL_law 239 = .ok (.iconst 0, 1) := by decide +kernel
theorem dL_law_240 : decode cL_law 240 = .ok (.ireturn, 1) := by decide +kernel
theorem dL_law_241 : decode cL_law 241 = .ok (.aload_n 1, 1) := by decide +kernel
theorem dL_law_242 : decode cL_law 242 = .ok (.aload_n 0, 1) := by decide +kernel
theorem dL_law_243 : decode cL_law 243 = .ok (.iload_n 3, 1) := by decide +kernel
theorem dL_law_244 : decode cL_law 244 = .ok (.iconst 1, 1) := by decide +kernel
theorem dL_law_245 : decode cL_law 245 = .ok (.iadd, 1) := by decide +kernel
theorem dL_law_246 : decode cL_law 246 = .ok (.iaload, 1) := by decide +kernel
theorem dL_law_247 : decode cL_law 247 = .ok (.aload_n 0, 1) := by decide +kernel
theorem dL_law_248 : decode cL_law 248 = .ok (.iload_n 3, 1) := by decide +kernel
theorem dL_law_249 : decode cL_law 249 = .ok (.iconst 2, 1) := by decide +kernel
theorem dL_law_250 : decode cL_law 250 = .ok (.iadd, 1) := by decide +kernel
theorem dL_law_251 : decode cL_law 251 = .ok (.iaload, 1) := by decide +kernel
theorem dL_law_252 : decode cL_law 252 = .ok (.ifCond .eq 7, 3) := by decide +kernel
theorem dL_law_255 : decode cL_law 255 = .ok (.iconst 1, 1) := by decide +kernel
theorem dL_law_256 : decode cL_law 256 = .ok (.goto 4, 3) := by decide +kernel
theorem dL_law_259 : decode cL_law 259 = .ok (.iconst 0, 1) := by decide +kernel
theorem dL_law_260 : decode cL_law 260 = .ok (.invokevirtual 28, 3) := by decide +kernel
theorem dL_law_263 : decode cL_law 263 = .ok (.aload_n 2, 1) := by decide +kernel
theorem dL_law_264 : decode cL_law 264 = .ok (.aload_n 0, 1) := by decide +kernel
theorem dL_law_265 : decode cL_law 265 = .ok (.iload_n 3, 1) := by decide +kernel
theorem dL_law_266 : decode cL_law 266 = .ok (.iconst 1, 1) := by decide +kernel
theorem dL_law_267 : decode cL_law 267 = .ok (.iadd, 1) := by decide +kernel
theorem dL_law_268 : decode cL_law 268 = .ok (.iaload, 1) := by decide +kernel
theorem dL_law_269 : decode cL_law 269 = .ok (.aload_n 0, 1) := by decide +kernel
theorem dL_law_270 : decode cL_law 270 = .ok (.iload_n 3, 1) := by decide +kernel
theorem dL_law_271 : decode cL_law 271 = .ok (.iconst 2, 1) := by decide +kernel
theorem dL_law_272 : decode cL_law 272 = .ok (.iadd, 1) := by decide +kernel
theorem dL_law_273 : decode cL_law 273 = .ok (.iaload, 1) := by decide +kernel
theorem dL_law_274 : decode cL_law 274 = .ok (.ifCond .eq 7, 3) := by decide +kernel
theorem dL_law_277 : decode cL_law 277 = .ok (.iconst 1, 1) := by decide +kernel
theorem dL_law_278 : decode cL_law 278 = .ok (.goto 4, 3) := by decide +kernel
theorem dL_law_281 : decode cL_law 281 = .ok (.iconst 0, 1) := by decide +kernel
theorem dL_law_282 : decode cL_law 282 = .ok (.invokevirtual 32, 3) := by decide +kernel
theorem dL_law_285 : decode cL_law 285 = .ok (.if_icmp .eq 499, 3) := by decide +kernel
theorem dL_law_288 : decode cL_law 288 = .ok (.iconst 0, 1) := by decide +kernel
theorem dL_law_289 : decode cL_law 289 = .ok (.ireturn, 1) := by decide +kernel
theorem dL_law_290 : decode cL_law 290 = .ok (.aload_n 1, 1) := by decide +kernel
theorem dL_law_291 : decode cL_law 291 = .ok (.aload_n 0, 1) := by decide +kernel
theorem dL_law_292 : decode cL_law 292 = .ok (.iload_n 3, 1) := by decide +kernel
theorem dL_law_293 : decode cL_law 293 = .ok (.iconst 1, 1) := by decide +kernel
theorem dL_law_294 : decode cL_law 294 = .ok (.iadd, 1) := by decide +kernel
theorem dL_law_295 : decode cL_law 295 = .ok (.iaload, 1) := by decide +kernel
theorem dL_law_296 : decode cL_law 296 = .ok (.invokevirtual 33, 3) := by decide +kernel
theorem dL_law_299 : decode cL_law 299 = .ok (.aload_n 2, 1) := by decide +kernel
theorem dL_law_300 : decode cL_law 300 = .ok (.aload_n 0, 1) := by decide +kernel
theorem dL_law_301 : decode cL_law 301 = .ok (.iload_n 3, 1) := by decide +kernel
theorem dL_law_302 : decode cL_law 302 = .ok (.iconst 1, 1) := by decide +kernel
theorem dL_law_303 : decode cL_law 303 = .ok (.iadd, 1) := by decide +kernel
theorem dL_law_304 : decode cL_law 304 = .ok (.iaload, 1) := by decide +kernel
theorem dL_law_305 : decode cL_law 305 = .ok (.invokevirtual 37, 3) := by decide +kernel
theorem dL_law_308 : decode cL_law 308 = .ok (.if_icmp .eq 476, 3) := by decide +kernel
theorem dL_law_311 : decode cL_law 311 = .ok (.iconst 0, 1) := by decide +kernel
theorem dL_law_312 : decode cL_law 312 = .ok (.ireturn, 1) := by decide +kernel
theorem dL_law_313 : decode cL_law 313 = .ok (.aload_n 1, 1) := by decide +kernel
theorem dL_law_314 : decode cL_law 314 = .ok (.aload_n 0, 1) := by decide +kernel
theorem dL_law_315 : decode cL_law 315 = .ok (.iload_n 3, 1) := by decide +kernel
theorem dL_law_316 : decode cL_law 316 = .ok (.iconst 1, 1) := by decide +kernel
theorem dL_law_317 : decode cL_law 317 = .ok (.iadd, 1) := by decide +kernel
theorem dL_law_318 : decode cL_law 318 = .ok (.iaload, 1) := by decide +kernel
theorem dL_law_319 : decode cL_law 319 = .ok (.invokevirtual 38, 3) := by decide +kernel
theorem dL_law_322 : decode cL_law 322 = .ok (.aload_n 2, 1) := by decide +kernel
theorem dL_law_323 : decode cL_law 323 = .ok (.aload_n 0, 1) := by decide +kernel
theorem dL_law_324 : decode cL_law 324 = .ok (.iload_n 3, 1) := by decide +kernel
theorem dL_law_325 : decode cL_law 325 = .ok (.iconst 1, 1) := by decide +kernel
theorem dL_law_326 : decode cL_law 326 = .ok (.iadd, 1) := by decide +kernel
theorem dL_law_327 : decode cL_law 327 = .ok (.iaload, 1) := by decide +kernel
theorem dL_law_328 : decode cL_law 328 = .ok (.invokevirtual 41, 3) := by decide +kernel
theorem dL_law_331 : decode cL_law 331 = .ok (.if_icmp .eq 453, 3) := by decide +kernel
theorem dL_law_334 : decode cL_law 334 = .ok (.iconst 0, 1) := by decide +kernel
theorem dL_law_335 : decode cL_law 335 = .ok (.ireturn, 1) := by decide +kernel
theorem dL_law_336 : decode cL_law 336 = .ok (.aload_n 1, 1) := by decide +kernel
theorem dL_law_337 : decode cL_law 337 = .ok (.aload_n 0, 1) := by decide +kernel
theorem dL_law_338 : decode cL_law 338 = .ok (.iload_n 3, 1) := by decide +kernel
theorem dL_law_339 : decode cL_law 339 = .ok (.iconst 1, 1) := by decide +kernel
theorem dL_law_340 : decode cL_law 340 = .ok (.iadd, 1) := by decide +kernel
theorem dL_law_341 : decode cL_law 341 = .ok (.iaload, 1) := by decide +kernel
theorem dL_law_342 : decode cL_law 342 = .ok (.aload_n 0, 1) := by decide +kernel
theorem dL_law_343 : decode cL_law 343 = .ok (.iload_n 3, 1) := by decide +kernel
theorem dL_law_344 : decode cL_law 344 = .ok (.iconst 2, 1) := by decide +kernel
theorem dL_law_345 : decode cL_law 345 = .ok (.iadd, 1) := by decide +kernel
theorem dL_law_346 : decode cL_law 346 = .ok (.iaload, 1) := by decide +kernel
theorem dL_law_347 : decode cL_law 347 = .ok (.aload_n 0, 1) := by decide +kernel
theorem dL_law_348 : decode cL_law 348 = .ok (.iload_n 3, 1) := by decide +kernel
theorem dL_law_349 : decode cL_law 349 = .ok (.iconst 3, 1) := by decide +kernel
theorem dL_law_350 : decode cL_law 350 = .ok (.iadd, 1) := by decide +kernel
theorem dL_law_351 : decode cL_law 351 = .ok (.iaload, 1) := by decide +kernel
theorem dL_law_352 : decode cL_law 352 = .ok (.invokevirtual 42, 3) := by decide +kernel
theorem dL_law_355 : decode cL_law 355 = .ok (.aload_n 2, 1) := by decide +kernel
theorem dL_law_356 : decode cL_law 356 = .ok (.aload_n 0, 1) := by decide +kernel
theorem dL_law_357 : decode cL_law 357 = .ok (.iload_n 3, 1) := by decide +kernel
theorem dL_law_358 : decode cL_law 358 = .ok (.iconst 1, 1) := by decide +kernel
theorem dL_law_359 : decode cL_law 359 = .ok (.iadd, 1) := by decide +kernel
theorem dL_law_360 : decode cL_law 360 = .ok (.iaload, 1) := by decide +kernel
theorem dL_law_361 : decode cL_law 361 = .ok (.aload_n 0, 1) := by decide +kernel
theorem dL_law_362 : decode cL_law 362 = .ok (.iload_n 3, 1) := by decide +kernel
theorem dL_law_363 : decode cL_law 363 = .ok (.iconst 2, 1) := by decide +kernel
theorem dL_law_364 : decode cL_law 364 = .ok (.iadd, 1) := by decide +kernel
theorem dL_law_365 : decode cL_law 365 = .ok (.iaload, 1) := by decide +kernel
theorem dL_law_366 : decode cL_law 366 = .ok (.aload_n 0, 1) := by decide +kernel
theorem dL_law_367 : decode cL_law 367 = .ok (.iload_n 3, 1) := by decide +kernel
theorem dL_law_368 : decode cL_law 368 = .ok (.iconst 3, 1) := by decide +kernel
theorem dL_law_369 : decode cL_law 369 = .ok (.iadd, 1) := by decide +kernel
theorem dL_law_370 : decode cL_law 370 = .ok (.iaload, 1) := by decide +kernel
theorem dL_law_371 : decode cL_law 371 = .ok (.invokevirtual 46, 3) := by decide +kernel
theorem dL_law_374 : decode cL_law 374 = .ok (.if_icmp .eq 410, 3) := by decide +kernel
theorem dL_law_377 : decode cL_law 377 = .ok (.iconst 0, 1) := by decide +kernel
theorem dL_law_378 : decode cL_law 378 = .ok (.ireturn, 1) := by decide +kernel
theorem dL_law_379 : decode cL_law 379 = .ok (.aload_n 1, 1) := by decide +kernel
theorem dL_law_380 : decode cL_law 380 = .ok (.aload_n 0, 1) := by decide +kernel
theorem dL_law_381 : decode cL_law 381 = .ok (.iload_n 3, 1) := by decide +kernel
theorem dL_law_382 : decode cL_law 382 = .ok (.iconst 1, 1) := by decide +kernel
theorem dL_law_383 : decode cL_law 383 = .ok (.iadd, 1) := by decide +kernel
theorem dL_law_384 : decode cL_law 384 = .ok (.iaload, 1) := by decide +kernel
theorem dL_law_385 : decode cL_law 385 = .ok (.aload_n 0, 1) := by decide +kernel
theorem dL_law_386 : decode cL_law 386 = .ok (.iload_n 3, 1) := by decide +kernel
theorem dL_law_387 : decode cL_law 387 = .ok (.iconst 2, 1) := by decide +kernel
theorem dL_law_388 : decode cL_law 388 = .ok (.iadd, 1) := by decide +kernel
theorem dL_law_389 : decode cL_law 389 = .ok (.iaload, 1) := by decide +kernel
theorem dL_law_390 : decode cL_law 390 = .ok (.invokevirtual 47, 3) := by decide +kernel
theorem dL_law_393 : decode cL_law 393 = .ok (.aload_n 2, 1) := by decide +kernel
theorem dL_law_394 : decode cL_law 394 = .ok (.aload_n 0, 1) := by decide +kernel
theorem dL_law_395 : decode cL_law 395 = .ok (.iload_n 3, 1) := by decide +kernel
theorem dL_law_396 : decode cL_law 396 = .ok (.iconst 1, 1) := by decide +kernel
theorem dL_law_397 : decode cL_law 397 = .ok (.iadd, 1) := by decide +kernel
theorem dL_law_398 : decode cL_law 398 = .ok (.iaload, 1) := by decide +kernel
theorem dL_law_399 : decode cL_law 399 = .ok (.aload_n 0, 1) := by decide +kernel
theorem dL_law_400 : decode cL_law 400 = .ok (.iload_n 3, 1) := by decide +kernel
theorem dL_law_401 : decode cL_law 401 = .ok (.iconst 2, 1) := by decide +kernel
theorem dL_law_402 : decode cL_law 402 = .ok (.iadd, 1) := by decide +kernel
theorem dL_law_403 : decode cL_law 403 = .ok (.iaload, 1) := by decide +kernel
theorem dL_law_404 : decode cL_law 404 = .ok (.invokevirtual 50, 3) := by decide +kernel
theorem dL_law_407 : decode cL_law 407 = .ok (.if_icmp .eq 377, 3) := by decide +kernel
theorem dL_law_410 : decode cL_law 410 = .ok (.iconst 0, 1) := by decide +kernel
theorem dL_law_411 : decode cL_law 411 = .ok (.ireturn, 1) := by decide +kernel
theorem dL_law_412 : decode cL_law 412 = .ok (.aload_n 1, 1) := by decide +kernel
theorem dL_law_413 : decode cL_law 413 = .ok (.aload_n 0, 1) := by decide +kernel
theorem dL_law_414 : decode cL_law 414 = .ok (.iload_n 3, 1) := by decide +kernel
theorem dL_law_415 : decode cL_law 415 = .ok (.iconst 1, 1) := by decide +kernel
theorem dL_law_416 : decode cL_law 416 = .ok (.iadd, 1) := by decide +kernel
theorem dL_law_417 : decode cL_law 417 = .ok (.iaload, 1) := by decide +kernel
theorem dL_law_418 : decode cL_law 418 = .ok (.aload_n 0, 1) := by decide +kernel
theorem dL_law_419 : decode cL_law 419 = .ok (.iload_n 3, 1) := by decide +kernel
theorem dL_law_420 : decode cL_law 420 = .ok (.iconst 2, 1) := by decide +kernel
theorem dL_law_421 : decode cL_law 421 = .ok (.iadd, 1) := by decide +kernel
theorem dL_law_422 : decode cL_law 422 = .ok (.iaload, 1) := by decide +kernel
theorem dL_law_423 : decode cL_law 423 = .ok (.invokevirtual 51, 3) := by decide +kernel
theorem dL_law_426 : decode cL_law 426 = .ok (.aload_n 2, 1) := by decide +kernel
theorem dL_law_427 : decode cL_law 427 = .ok (.aload_n 0, 1) := by decide +kernel
theorem dL_law_428 : decode cL_law 428 = .ok (.iload_n 3, 1) := by decide +kernel
theorem dL_law_429 : decode cL_law 429 = .ok (.iconst 1, 1) := by decide +kernel
theorem dL_law_430 : decode cL_law 430 = .ok (.iadd, 1) := by decide +kernel
theorem dL_law_431 : decode cL_law 431 = .ok (.iaload, 1) := by decide +kernel
theorem dL_law_432 : decode cL_law 432 = .ok (.aload_n 0, 1) := by decide +kernel
theorem dL_law_433 : decode cL_law 433 = .ok (.iload_n 3, 1) := by decide +kernel
theorem dL_law_434 : decode cL_law 434 = .ok (.iconst 2, 1) := by decide +kernel
theorem dL_law_435 : decode cL_law 435 = .ok (.iadd, 1) := by decide +kernel
theorem dL_law_436 : decode cL_law 436 = .ok (.iaload, 1) := by decide +kernel
theorem dL_law_437 : decode cL_law 437 = .ok (.invokevirtual 54, 3) := by decide +kernel
theorem dL_law_440 : decode cL_law 440 = .ok (.if_icmp .eq 344, 3) := by decide +kernel
theorem dL_law_443 : decode cL_law 443 = .ok (.iconst 0, 1) := by decide +kernel
theorem dL_law_444 : decode cL_law 444 = .ok (.ireturn, 1) := by decide +kernel
theorem dL_law_445 : decode cL_law 445 = .ok (.aload_n 1, 1) := by decide +kernel
theorem dL_law_446 : decode cL_law 446 = .ok (.aload_n 0, 1) := by decide +kernel
theorem dL_law_447 : decode cL_law 447 = .ok (.iload_n 3, 1) := by decide +kernel
theorem dL_law_448 : decode cL_law 448 = .ok (.iconst 1, 1) := by decide +kernel
theorem dL_law_449 : decode cL_law 449 = .ok (.iadd, 1) := by decide +kernel
theorem dL_law_450 : decode cL_law 450 = .ok (.iaload, 1) := by decide +kernel
theorem dL_law_451 : decode cL_law 451 = .ok (.aload_n 0, 1) := by decide +kernel
theorem dL_law_452 : decode cL_law 452 = .ok (.iload_n 3, 1) := by decide +kernel
theorem dL_law_453 : decode cL_law 453 = .ok (.iconst 2, 1) := by decide +kernel
theorem dL_law_454 : decode cL_law 454 = .ok (.iadd, 1) := by decide +kernel
theorem dL_law_455 : decode cL_law 455 = .ok (.iaload, 1) := by decide +kernel
theorem dL_law_456 : decode cL_law 456 = .ok (.invokevirtual 55, 3) := by decide +kernel
theorem dL_law_459 : decode cL_law 459 = .ok (.aload_n 2, 1) := by decide +kernel
theorem dL_law_460 : decode cL_law 460 = .ok (.aload_n 0, 1) := by decide +kernel
theorem dL_law_461 : decode cL_law 461 = .ok (.iload_n 3, 1) := by decide +kernel
theorem dL_law_462 : decode cL_law 462 = .ok (.iconst 1, 1) := by decide +kernel
theorem dL_law_463 : decode cL_law 463 = .ok (.iadd, 1) := by decide +kernel
theorem dL_law_464 : decode cL_law 464 = .ok (.iaload, 1) := by decide +kernel
theorem dL_law_465 : decode cL_law 465 = .ok (.aload_n 0, 1) := by decide +kernel
theorem dL_law_466 : decode cL_law 466 = .ok (.iload_n 3, 1) := by decide +kernel
theorem dL_law_467 : decode cL_law 467 = .ok (.iconst 2, 1) := by decide +kernel
theorem dL_law_468 : decode cL_law 468 = .ok (.iadd, 1) := by decide +kernel
theorem dL_law_469 : decode cL_law 469 = .ok (.iaload, 1) := by decide +kernel
theorem dL_law_470 : decode cL_law 470 = .ok (.invokevirtual 58, 3) := by decide +kernel
theorem dL_law_473 : decode cL_law 473 = .ok (.if_icmp .eq 311, 3) := by decide +kernel
theorem dL_law_476 : decode cL_law 476 = .ok (.iconst 0, 1) := by decide +kernel
theorem dL_law_477 : decode cL_law 477 = .ok (.ireturn, 1) := by decide +kernel
theorem dL_law_478 : decode cL_law 478 = .ok (.aload_n 1, 1) := by decide +kernel
theorem dL_law_479 : decode cL_law 479 = .ok (.aload_n 0, 1) := by decide +kernel
theorem dL_law_480 : decode cL_law 480 = .ok (.iload_n 3, 1) := by decide +kernel
theorem dL_law_481 : decode cL_law 481 = .ok (.iconst 1, 1) := by decide +kernel
theorem dL_law_482 : decode cL_law 482 = .ok (.iadd, 1) := by decide +kernel
theorem dL_law_483 : decode cL_law 483 = .ok (.iaload, 1) := by decide +kernel
theorem dL_law_484 : decode cL_law 484 = .ok (.aload_n 0, 1) := by decide +kernel
theorem dL_law_485 : decode cL_law 485 = .ok (.iload_n 3, 1) := by decide +kernel
theorem dL_law_486 : decode cL_law 486 = .ok (.iconst 2, 1) := by decide +kernel
theorem dL_law_487 : decode cL_law 487 = .ok (.iadd, 1) := by decide +kernel
theorem dL_law_488 : decode cL_law 488 = .ok (.iaload, 1) := by decide +kernel
theorem dL_law_489 : decode cL_law 489 = .ok (.invokevirtual 59, 3) := by decide +kernel
theorem dL_law_492 : decode cL_law 492 = .ok (.aload_n 2, 1) := by decide +kernel
theorem dL_law_493 : decode cL_law 493 = .ok (.aload_n 0, 1) := by decide +kernel
theorem dL_law_494 : decode cL_law 494 = .ok (.iload_n 3, 1) := by decide +kernel
theorem dL_law_495 : decode cL_law 495 = .ok (.iconst 1, 1) := by decide +kernel
theorem dL_law_496 : decode cL_law 496 = .ok (.iadd, 1) := by decide +kernel
theorem dL_law_497 : decode cL_law 497 = .ok (.iaload, 1) := by decide +kernel
theorem dL_law_498 : decode cL_law 498 = .ok (.aload_n 0, 1) := by decide +kernel
theorem dL_law_499 : decode cL_law 499 = .ok (.iload_n 3, 1) := by decide +kernel
theorem dL_law_500 : decode cL_law 500 = .ok (.iconst 2, 1) := by decide +kernel
theorem dL_law_501 : decode cL_law 501 = .ok (.iadd, 1) := by decide +kernel
theorem dL_law_502 : decode cL_law 502 = .ok (.iaload, 1) := by decide +kernel
theorem dL_law_503 : decode cL_law 503 = .ok (.invokevirtual 62, 3) := by decide +kernel
theorem dL_law_506 : decode cL_law 506 = .ok (.if_icmp .eq 278, 3) := by decide +kernel
theorem dL_law_509 : decode cL_law 509 = .ok (.iconst 0, 1) := by decide +kernel
theorem dL_law_510 : decode cL_law 510 = .ok (.ireturn, 1) := by decide +kernel
theorem dL_law_511 : decode cL_law 511 = .ok (.aload_n 1, 1) := by decide +kernel
theorem dL_law_512 : decode cL_law 512 = .ok (.aload_n 0, 1) := by decide +kernel
theorem dL_law_513 : decode cL_law 513 = .ok (.iload_n 3, 1) := by decide +kernel
theorem dL_law_514 : decode cL_law 514 = .ok (.iconst 1, 1) := by decide +kernel
theorem dL_law_515 : decode cL_law 515 = .ok (.iadd, 1) := by decide +kernel
theorem dL_law_516 : decode cL_law 516 = .ok (.iaload, 1) := by decide +kernel
theorem dL_law_517 : decode cL_law 517 = .ok (.invokevirtual 63, 3) := by decide +kernel
theorem dL_law_520 : decode cL_law 520 = .ok (.aload_n 2, 1) := by decide +kernel
theorem dL_law_521 : decode cL_law 521 = .ok (.aload_n 0, 1) := by decide +kernel
theorem dL_law_522 : decode cL_law 522 = .ok (.iload_n 3, 1) := by decide +kernel
theorem dL_law_523 : decode cL_law 523 = .ok (.iconst 1, 1) := by decide +kernel
theorem dL_law_524 : decode cL_law 524 = .ok (.iadd, 1) := by decide +kernel
theorem dL_law_525 : decode cL_law 525 = .ok (.iaload, 1) := by decide +kernel
theorem dL_law_526 : decode cL_law 526 = .ok (.invokevirtual 66, 3) := by decide +kernel
theorem dL_law_529 : decode cL_law 529 = .ok (.if_icmp .eq 255, 3) := by decide +kernel
theorem dL_law_532 : decode cL_law 532 = .ok (.iconst 0, 1) := by decide +kernel
theorem dL_law_533 : decode cL_law 533 = .ok (.ireturn, 1) := by decide +kernel
theorem dL_law_534 : decode cL_law 534 = .ok (.aload_n 1, 1) := by decide +kernel
theorem dL_law_535 : decode cL_law 535 = .ok (.aload_n 0, 1) := by decide +kernel
theorem dL_law_536 : decode cL_law 536 = .ok (.iload_n 3, 1) := by decide +kernel
theorem dL_law_537 : decode cL_law 537 = .ok (.iconst 1, 1) := by decide +kernel
theorem dL_law_538 : decode cL_law 538 = .ok (.iadd, 1) := by decide +kernel
theorem dL_law_539 : decode cL_law 539 = .ok (.iaload, 1) := by decide +kernel
theorem dL_law_540 : decode cL_law 540 = .ok (.invokevirtual 67, 3) := by decide +kernel
theorem dL_law_543 : decode cL_law 543 = .ok (.aload_n 2, 1) := by decide +kernel
theorem dL_law_544 : decode cL_law 544 = .ok (.aload_n 0, 1) := by decide +kernel
theorem dL_law_545 : decode cL_law 545 = .ok (.iload_n 3, 1) := by decide +kernel
theorem dL_law_546 : decode cL_law 546 = .ok (.iconst 1, 1) := by decide +kernel
theorem dL_law_547 : decode cL_law 547 = .ok (.iadd, 1) := by decide +kernel
theorem dL_law_548 : decode cL_law 548 = .ok (.iaload, 1) := by decide +kernel
theorem dL_law_549 : decode cL_law 549 = .ok (.invokevirtual 70, 3) := by decide +kernel
theorem dL_law_552 : decode cL_law 552 = .ok (.if_icmp .eq 232, 3) := by decide +kernel
theorem dL_law_555 : decode cL_law 555 = .ok (.iconst 0, 1) := by decide +kernel
theorem dL_law_556 : decode cL_law 556 = .ok (.ireturn, 1) := by decide +kernel
theorem dL_law_557 : decode cL_law 557 = .ok (.aload_n 1, 1) := by decide +kernel
theorem dL_law_558 : decode cL_law 558 = .ok (.aload_n 0, 1) := by decide +kernel
theorem dL_law_559 : decode cL_law 559 = .ok (.iload_n 3, 1) := by decide +kernel
theorem dL_law_560 : decode cL_law 560 = .ok (.iconst 1, 1) := by decide +kernel
theorem dL_law_561 : decode cL_law 561 = .ok (.iadd, 1) := by decide +kernel
theorem dL_law_562 : decode cL_law 562 = .ok (.iaload, 1) := by decide +kernel
theorem dL_law_563 : decode cL_law 563 = .ok (.aload_n 0, 1) := by decide +kernel
theorem dL_law_564 : decode cL_law 564 = .ok (.iload_n 3, 1) := by decide +kernel
theorem dL_law_565 : decode cL_law 565 = .ok (.iconst 2, 1) := by decide +kernel
theorem dL_law_566 : decode cL_law 566 = .ok (.iadd, 1) := by decide +kernel
theorem dL_law_567 : decode cL_law 567 = .ok (.iaload, 1) := by decide +kernel
theorem dL_law_568 : decode cL_law 568 = .ok (.invokevirtual 71, 3) := by decide +kernel
theorem dL_law_571 : decode cL_law 571 = .ok (.aload_n 2, 1) := by decide +kernel
theorem dL_law_572 : decode cL_law 572 = .ok (.aload_n 0, 1) := by decide +kernel
theorem dL_law_573 : decode cL_law 573 = .ok (.iload_n 3, 1) := by decide +kernel
theorem dL_law_574 : decode cL_law 574 = .ok (.iconst 1, 1) := by decide +kernel
theorem dL_law_575 : decode cL_law 575 = .ok (.iadd, 1) := by decide +kernel
theorem dL_law_576 : decode cL_law 576 = .ok (.iaload, 1) := by decide +kernel
theorem dL_law_577 : decode cL_law 577 = .ok (.aload_n 0, 1) := by decide +kernel
theorem dL_law_578 : decode cL_law 578 = .ok (.iload_n 3, 1) := by decide +kernel
theorem dL_law_579 : decode cL_law 579 = .ok (.iconst 2, 1) := by decide +kernel
theorem dL_law_580 : decode cL_law 580 = .ok (.iadd, 1) := by decide +kernel
theorem dL_law_581 : decode cL_law 581 = .ok (.iaload, 1) := by decide +kernel
theorem dL_law_582 : decode cL_law 582 = .ok (.invokevirtual 74, 3) := by decide +kernel
theorem dL_law_585 : decode cL_law 585 = .ok (.if_icmp .eq 199, 3) := by decide +kernel
theorem dL_law_588 : decode cL_law 588 = .ok (.iconst 0, 1) := by decide +kernel
theorem dL_law_589 : decode cL_law 589 = .ok (.ireturn, 1) := by decide +kernel
theorem dL_law_590 : decode cL_law 590 = .ok (.aload_n 1, 1) := by decide +kernel
theorem dL_law_591 : decode cL_law 591 = .ok (.aload_n 0, 1) := by decide +kernel
theorem dL_law_592 : decode cL_law 592 = .ok (.iload_n 3, 1) := by decide +kernel
theorem dL_law_593 : decode cL_law 593 = .ok (.iconst 1, 1) := by decide +kernel
theorem dL_law_594 : decode cL_law 594 = .ok (.iadd, 1) := by decide +kernel
theorem dL_law_595 : decode cL_law 595 = .ok (.iaload, 1) := by decide +kernel
theorem dL_law_596 : decode cL_law 596 = .ok (.invokevirtual 75, 3) := by decide +kernel
theorem dL_law_599 : decode cL_law 599 = .ok (.aload_n 2, 1) := by decide +kernel
theorem dL_law_600 : decode cL_law 600 = .ok (.aload_n 0, 1) := by decide +kernel
theorem dL_law_601 : decode cL_law 601 = .ok (.iload_n 3, 1) := by decide +kernel
theorem dL_law_602 : decode cL_law 602 = .ok (.iconst 1, 1) := by decide +kernel
theorem dL_law_603 : decode cL_law 603 = .ok (.iadd, 1) := by decide +kernel
theorem dL_law_604 : decode cL_law 604 = .ok (.iaload, 1) := by decide +kernel
theorem dL_law_605 : decode cL_law 605 = .ok (.invokevirtual 78, 3) := by decide +kernel
theorem dL_law_608 : decode cL_law 608 = .ok (.if_icmp .eq 176, 3) := by decide +kernel
theorem dL_law_611 : decode cL_law 611 = .ok (.iconst 0, 1) := by decide +kernel
theorem dL_law_612 : decode cL_law 612 = .ok (.ireturn, 1) := by decide +kernel
theorem dL_law_613 : decode cL_law 613 = .ok (.aload_n 1, 1) := by decide +kernel
theorem dL_law_614 : decode cL_law 614 = .ok (.aload_n 0, 1) := by decide +kernel
theorem dL_law_615 : decode cL_law 615 = .ok (.iload_n 3, 1) := by decide +kernel
theorem dL_law_616 : decode cL_law 616 = .ok (.iconst 1, 1) := by decide +kernel
theorem dL_law_617 : decode cL_law 617 = .ok (.iadd, 1) := by decide +kernel
theorem dL_law_618 : decode cL_law 618 = .ok (.iaload, 1) := by decide +kernel
theorem dL_law_619 : decode cL_law 619 = .ok (.aload_n 0, 1) := by decide +kernel
theorem dL_law_620 : decode cL_law 620 = .ok (.iload_n 3, 1) := by decide +kernel
theorem dL_law_621 : decode cL_law 621 = .ok (.iconst 2, 1) := by decide +kernel
theorem dL_law_622 : decode cL_law 622 = .ok (.iadd, 1) := by decide +kernel
theorem dL_law_623 : decode cL_law 623 = .ok (.iaload, 1) := by decide +kernel
theorem dL_law_624 : decode cL_law 624 = .ok (.invokevirtual 79, 3) := by decide +kernel
theorem dL_law_627 : decode cL_law 627 = .ok (.aload_n 2, 1) := by decide +kernel
theorem dL_law_628 : decode cL_law 628 = .ok (.aload_n 0, 1) := by decide +kernel
theorem dL_law_629 : decode cL_law 629 = .ok (.iload_n 3, 1) := by decide +kernel
theorem dL_law_630 : decode cL_law 630 = .ok (.iconst 1, 1) := by decide +kernel
theorem dL_law_631 : decode cL_law 631 = .ok (.iadd, 1) := by decide +kernel
theorem dL_law_632 : decode cL_law 632 = .ok (.iaload, 1) := by decide +kernel
theorem dL_law_633 : decode cL_law 633 = .ok (.aload_n 0, 1) := by decide +kernel
theorem dL_law_634 : decode cL_law 634 = .ok (.iload_n 3, 1) := by decide +kernel
theorem dL_law_635 : decode cL_law 635 = .ok (.iconst 2, 1) := by decide +kernel
theorem dL_law_636 : decode cL_law 636 = .ok (.iadd, 1) := by decide +kernel
theorem dL_law_637 : decode cL_law 637 = .ok (.iaload, 1) := by decide +kernel
theorem dL_law_638 : decode cL_law 638 = .ok (.invokevirtual 82, 3) := by decide +kernel
theorem dL_law_641 : decode cL_law 641 = .ok (.if_icmp .eq 143, 3) := by decide +kernel
theorem dL_law_644 : decode cL_law 644 = .ok (.iconst 0, 1) := by decide +kernel
theorem dL_law_645 : decode cL_law 645 = .ok (.ireturn, 1) := by decide +kernel
theorem dL_law_646 : decode cL_law 646 = .ok (.aload_n 1, 1) := by decide +kernel
theorem dL_law_647 : decode cL_law 647 = .ok (.aload_n 0, 1) := by decide +kernel
theorem dL_law_648 : decode cL_law 648 = .ok (.iload_n 3, 1) := by decide +kernel
theorem dL_law_649 : decode cL_law 649 = .ok (.iconst 1, 1) := by decide +kernel
theorem dL_law_650 : decode cL_law 650 = .ok (.iadd, 1) := by decide +kernel
theorem dL_law_651 : decode cL_law 651 = .ok (.iaload, 1) := by decide +kernel
theorem dL_law_652 : decode cL_law 652 = .ok (.i2l, 1) := by decide +kernel
theorem dL_law_653 : decode cL_law 653 = .ok (.bipush 32, 2) := by decide +kernel
theorem dL_law_655 : decode cL_law 655 = .ok (.lshl, 1) := by decide +kernel
theorem dL_law_656 : decode cL_law 656 = .ok (.aload_n 0, 1) := by decide +kernel
theorem dL_law_657 : decode cL_law 657 = .ok (.iload_n 3, 1) := by decide +kernel
theorem dL_law_658 : decode cL_law 658 = .ok (.iconst 2, 1) := by decide +kernel
theorem dL_law_659 : decode cL_law 659 = .ok (.iadd, 1) := by decide +kernel
theorem dL_law_660 : decode cL_law 660 = .ok (.iaload, 1) := by decide +kernel
theorem dL_law_661 : decode cL_law 661 = .ok (.i2l, 1) := by decide +kernel
theorem dL_law_662 : decode cL_law 662 = .ok (.ldc2_w 83, 3) := by decide +kernel
theorem dL_law_665 : decode cL_law 665 = .ok (.land, 1) := by decide +kernel
theorem dL_law_666 : decode cL_law 666 = .ok (.lor, 1) := by decide +kernel
theorem dL_law_667 : decode cL_law 667 = .ok (.invokevirtual 85, 3) := by decide +kernel
theorem dL_law_670 : decode cL_law 670 = .ok (.aload_n 2, 1) := by decide +kernel
theorem dL_law_671 : decode cL_law 671 = .ok (.aload_n 0, 1) := by decide +kernel
theorem dL_law_672 : decode cL_law 672 = .ok (.iload_n 3, 1) := by decide +kernel
theorem dL_law_673 : decode cL_law 673 = .ok (.iconst 1, 1) := by decide +kernel
theorem dL_law_674 : decode cL_law 674 = .ok (.iadd, 1) := by decide +kernel
theorem dL_law_675 : decode cL_law 675 = .ok (.iaload, 1) := by decide +kernel
theorem dL_law_676 : decode cL_law 676 = .ok (.i2l, 1) := by decide +kernel
theorem dL_law_677 : decode cL_law 677 = .ok (.bipush 32, 2) := by decide +kernel
theorem dL_law_679 : decode cL_law 679 = .ok (.lshl, 1) := by decide +kernel
theorem dL_law_680 : decode cL_law 680 = .ok (.aload_n 0, 1) := by decide +kernel
theorem dL_law_681 : decode cL_law 681 = .ok (.iload_n 3, 1) := by decide +kernel
theorem dL_law_682 : decode cL_law 682 = .ok (.iconst 2, 1) := by decide +kernel
theorem dL_law_683 : decode cL_law 683 = .ok (.iadd, 1) := by decide +kernel
theorem dL_law_684 : decode cL_law 684 = .ok (.iaload, 1) := by decide +kernel
theorem dL_law_685 : decode cL_law 685 = .ok (.i2l, 1) := by decide +kernel
theorem dL_law_686 : decode cL_law 686 = .ok (.ldc2_w 83, 3) := by decide +kernel
theorem dL_law_689 : decode cL_law 689 = .ok (.land, 1) := by decide +kernel
theorem dL_law_690 : decode cL_law 690 = .ok (.lor, 1) := by decide +kernel
theorem dL_law_691 : decode cL_law 691 = .ok (.invokevirtual 89, 3) := by decide +kernel
theorem dL_law_694 : decode cL_law 694 = .ok (.if_icmp .eq 90, 3) := by decide +kernel
theorem dL_law_697 : decode cL_law 697 = .ok (.iconst 0, 1) := by decide +kernel
theorem dL_law_698 : decode cL_law 698 = .ok (.ireturn, 1) := by decide +kernel
theorem dL_law_699 : decode cL_law 699 = .ok (.aload_n 1, 1) := by decide +kernel
theorem dL_law_700 : decode cL_law 700 = .ok (.invokevirtual 90, 3) := by decide +kernel
theorem dL_law_703 : decode cL_law 703 = .ok (.aload_n 2, 1) := by decide +kernel
theorem dL_law_704 : decode cL_law 704 = .ok (.invokevirtual 93, 3) := by decide +kernel
theorem dL_law_707 : decode cL_law 707 = .ok (.if_icmp .eq 77, 3) := by decide +kernel
theorem dL_law_710 : decode cL_law 710 = .ok (.iconst 0, 1) := by decide +kernel
theorem dL_law_711 : decode cL_law 711 = .ok (.ireturn, 1) := by decide +kernel
theorem dL_law_712 : decode cL_law 712 = .ok (.aload_n 1, 1) := by decide +kernel
theorem dL_law_713 : decode cL_law 713 = .ok (.invokevirtual 94, 3) := by decide +kernel
theorem dL_law_716 : decode cL_law 716 = .ok (.aload_n 2, 1) := by decide +kernel
theorem dL_law_717 : decode cL_law 717 = .ok (.invokevirtual 97, 3) := by decide +kernel
theorem dL_law_720 : decode cL_law 720 = .ok (.if_icmp .eq 64, 3) := by decide +kernel
theorem dL_law_723 : decode cL_law 723 = .ok (.iconst 0, 1) := by decide +kernel
theorem dL_law_724 : decode cL_law 724 = .ok (.ireturn, 1) := by decide +kernel
theorem dL_law_725 : decode cL_law 725 = .ok (.aload_n 1, 1) := by decide +kernel
theorem dL_law_726 : decode cL_law 726 = .ok (.invokevirtual 98, 3) := by decide +kernel
theorem dL_law_729 : decode cL_law 729 = .ok (.aload_n 2, 1) := by decide +kernel
theorem dL_law_730 : decode cL_law 730 = .ok (.invokevirtual 101, 3) := by decide +kernel
theorem dL_law_733 : decode cL_law 733 = .ok (.if_icmp .eq 51, 3) := by decide +kernel
theorem dL_law_736 : decode cL_law 736 = .ok (.iconst 0, 1) := by decide +kernel
theorem dL_law_737 : decode cL_law 737 = .ok (.ireturn, 1) := by decide +kernel
theorem dL_law_738 : decode cL_law 738 = .ok (.aload_n 1, 1) := by decide +kernel
theorem dL_law_739 : decode cL_law 739 = .ok (.aload_n 0, 1) := by decide +kernel
theorem dL_law_740 : decode cL_law 740 = .ok (.iload_n 3, 1) := by decide +kernel
theorem dL_law_741 : decode cL_law 741 = .ok (.iconst 1, 1) := by decide +kernel
theorem dL_law_742 : decode cL_law 742 = .ok (.iadd, 1) := by decide +kernel
theorem dL_law_743 : decode cL_law 743 = .ok (.iaload, 1) := by decide +kernel
theorem dL_law_744 : decode cL_law 744 = .ok (.invokevirtual 102, 3) := by decide +kernel
theorem dL_law_747 : decode cL_law 747 = .ok (.aload_n 2, 1) := by decide +kernel
theorem dL_law_748 : decode cL_law 748 = .ok (.aload_n 0, 1) := by decide +kernel
theorem dL_law_749 : decode cL_law 749 = .ok (.iload_n 3, 1) := by decide +kernel
theorem dL_law_750 : decode cL_law 750 = .ok (.iconst 1, 1) := by decide +kernel
theorem dL_law_751 : decode cL_law 751 = .ok (.iadd, 1) := by decide +kernel
theorem dL_law_752 : decode cL_law 752 = .ok (.iaload, 1) := by decide +kernel
theorem dL_law_753 : decode cL_law 753 = .ok (.invokevirtual 105, 3) := by decide +kernel
theorem dL_law_756 : decode cL_law 756 = .ok (.if_icmp .eq 28, 3) := by decide +kernel
theorem dL_law_759 : decode cL_law 759 = .ok (.iconst 0, 1) := by decide +kernel
theorem dL_law_760 : decode cL_law 760 = .ok (.ireturn, 1) := by decide +kernel
theorem dL_law_761 : decode cL_law 761 = .ok (.aload_n 1, 1) := by decide +kernel
theorem dL_law_762 : decode cL_law 762 = .ok (.aload_n 0, 1) := by decide +kernel
theorem dL_law_763 : decode cL_law 763 = .ok (.iload_n 3, 1) := by decide +kernel
theorem dL_law_764 : decode cL_law 764 = .ok (.iconst 1, 1) := by decide +kernel
theorem dL_law_765 : decode cL_law 765 = .ok (.iadd, 1) := by decide +kernel
theorem dL_law_766 : decode cL_law 766 = .ok (.iaload, 1) := by decide +kernel
theorem dL_law_767 : decode cL_law 767 = .ok (.invokevirtual 106, 3) := by decide +kernel
theorem dL_law_770 : decode cL_law 770 = .ok (.aload_n 2, 1) := by decide +kernel
theorem dL_law_771 : decode cL_law 771 = .ok (.aload_n 0, 1) := by decide +kernel
theorem dL_law_772 : decode cL_law 772 = .ok (.iload_n 3, 1) := by decide +kernel
theorem dL_law_773 : decode cL_law 773 = .ok (.iconst 1, 1) := by decide +kernel
theorem dL_law_774 : decode cL_law 774 = .ok (.iadd, 1) := by decide +kernel
theorem dL_law_775 : decode cL_law 775 = .ok (.iaload, 1) := by decide +kernel
theorem dL_law_776 : decode cL_law 776 = .ok (.invokevirtual 109, 3) := by decide +kernel
theorem dL_law_779 : decode cL_law 779 = .ok (.if_icmp .eq 5, 3) := by decide +kernel
theorem dL_law_782 : decode cL_law 782 = .ok (.iconst 0, 1) := by decide +kernel
theorem dL_law_783 : decode cL_law 783 = .ok (.ireturn, 1) := by decide +kernel
theorem dL_law_784 : decode cL_law 784 = .ok (.iinc 3 4, 3) := by decide +kernel
theorem dL_law_787 : decode cL_law 787 = .ok (.goto (-769), 3) := by decide +kernel
theorem dL_law_790 : decode cL_law 790 = .ok (.iconst 1, 1) := by decide +kernel
theorem dL_law_791 : decode cL_law 791 = .ok (.ireturn, 1) := by decide +kernel
end
section
-- THE PURE MACHINE: memory as cell -> place -> Int, cells at fixed offsets from the heap's size at the law's entry
abbrev zMem : Type := Nat → Int → Int
abbrev zPhi : Type := Nat × (Nat → Nat → Bool)
abbrev zPV : Type := Nat × Int
abbrev zGG : Type := Launch × va_G × (ClassId × ClassId × ClassId) × (Nat × Nat × Nat × Nat) × Nat × (Nat → Int32)
def gL (g : zGG) : Launch := g.1
def gD (g : zGG) : va_G := g.2.1
def gI (g : zGG) : ClassId := g.2.2.1.1
def gZ (g : zGG) : ClassId := g.2.2.1.2.1
def gR (g : zGG) : ClassId := g.2.2.1.2.2
def gB (g : zGG) : Nat := g.2.2.2.1.1
def gS1 (g : zGG) : Nat := g.2.2.2.1.2.1
def gS2 (g : zGG) : Nat := g.2.2.2.1.2.2.1
def gX (g : zGG) : Nat := g.2.2.2.1.2.2.2
def gN (g : zGG) : Nat := g.2.2.2.2.1
def gxs (g : zGG) : Nat → Int32 := g.2.2.2.2.2
def gA (g : zGG) : Nat → Prop := fun q => gB g ≤ q
def zI (v : Int) : zPV := (0, v)
def zR (a : Nat) : zPV := (1, (a : Int))
def zN : zPV := (2, 0)
def zX : zPV := (3, 0)
def zS1 : zPV := (4, 0)
def zS2 : zPV := (5, 0)
def zL (n : Int) : zPV := (6, n)
def zval (g : zGG) (v : zPV) : Value := match v.1 with
  | 0 => .int (Int32.ofInt v.2)
  | 1 => .ref (gB g + v.2.toNat)
  | 2 => .null
  | 3 => .ref (gX g)
  | 4 => .ref (gS1 g)
  | 5 => .ref (gS2 g)
  | _ => .long (Int64.ofInt v.2)
theorem zval_I (g : zGG) (v : Int) : zval g (zI v) = .int (Int32.ofInt v) := rfl
theorem zval_R (g : zGG) (a : Nat) : zval g (zR a) = .ref (gB g + a) := rfl
theorem zval_N (g : zGG) : zval g zN = .null := rfl
theorem zval_X (g : zGG) : zval g zX = .ref (gX g) := rfl
theorem zval_S1 (g : zGG) : zval g zS1 = .ref (gS1 g) := rfl
theorem zval_S2 (g : zGG) : zval g zS2 = .ref (gS2 g) := rfl
theorem zval_L (g : zGG) (v : Int) : zval g (zL v) = .long (Int64.ofInt v) := rfl
theorem zval_cat1 (g : zGG) (v : zPV) (h : v.1 < 6) : (zval g v).category = 1 := by
  obtain ⟨t, x⟩ := v
  have ht : t < 6 := h
  rcases (show t = 0 ∨ t = 1 ∨ t = 2 ∨ t = 3 ∨ t = 4 ∨ t = 5 by omega) with rfl | rfl | rfl | rfl | rfl | rfl <;> rfl
abbrev inR (v : Int) : Prop := -2147483648 ≤ v ∧ v ≤ 2147483647
theorem ti_of {v : Int} (h : inR v) : (Int32.ofInt v).toInt = v := Int32.toInt_ofInt_of_le (by have := h.1; omega) (by have := h.2; omega)
theorem ofI_lt {x y : Int} (hx : inR x) (hy : inR y) : Int32.ofInt x < Int32.ofInt y ↔ x < y := by
  rw [Int32.lt_iff_toInt_lt, ti_of hx, ti_of hy]
theorem ofI_le {x y : Int} (hx : inR x) (hy : inR y) : Int32.ofInt x ≤ Int32.ofInt y ↔ x ≤ y := by
  rw [Int32.le_iff_toInt_le, ti_of hx, ti_of hy]
theorem ofI_eq {x y : Int} (hx : inR x) (hy : inR y) : Int32.ofInt x = Int32.ofInt y ↔ x = y := by
  rw [← Int32.toInt_inj, ti_of hx, ti_of hy]
theorem inR0 : inR 0 := ⟨by decide, by decide⟩
-- the land of cells: kind and size of each
def rlay : List (Nat × Nat) := [(0, 7), (1, 4), (0, 1), (1, 150), (1, 240), (0, 4), (1, 240), (1, 12), (1, 12), (1, 12), (1, 240), (1, 240), (1, 480), (1, 480), (1, 8)]
def LAYL : List (Nat × Nat) := [(0, 8)] ++ rlay ++ rlay ++ [(3, 2), (2, 2), (0, 2), (3, 6)] ++ rlay ++ rlay ++ rlay ++ rlay ++ rlay ++ rlay ++ [(0, 5), (1, 64), (1, 150), (0, 6), (0, 0), (0, 3), (0, 0), (0, 3)] ++ rlay ++ rlay ++ [(0, 9), (1, 1407), (1, 1407), (1, 8442), (1, 2814), (2, 2), (1, 64), (1, 150), (1, 150), (2, 240), (1, 150), (2, 480), (1, 150)]
def LAY (k : Nat) : Nat × Nat := LAYL.getD k (9, 0)
abbrev NX : Nat := 176
def RXc (ci : Nat) : String := match ci with
  | 0 => RX0 | 1 => RX1 | 2 => RX2 | 3 => RX3 | 4 => RX4 | 5 => RX5 | 6 => RX6 | 7 => RX7 | 8 => RX8 | _ => RX9
def TXc (ci : Nat) : u_T := match ci with
  | 0 => TX0 | 1 => TX1 | 2 => TX2 | 3 => TX3 | 4 => TX4 | 5 => TX5 | 6 => TX6 | 7 => TX7 | 8 => TX8 | _ => TX9
def ncl (ci : Nat) : Nat := match ci with
  | 0 => 3 | 1 => 3 | 2 => 3 | 3 => 2 | 4 => 5 | 5 => 7 | 6 => 5 | 7 => 12 | 8 => 9 | _ => 24
def tyc (ci : Nat) : Nat → FieldType := match ci with
  | 0 => tyX0 | 1 => tyX1 | 2 => tyX2 | 3 => tyX3 | 4 => tyX4 | 5 => tyX5 | 6 => tyX6 | 7 => tyX7 | 8 => tyX8 | _ => tyX9
def cls : List vw_C := (List.range 10).map (fun ci => (RXc ci, TXc ci, ncl ci))
def isRf : FieldType → Bool
  | .object _ => true
  | .array _ => true
  | _ => false
def RT (k i : Nat) : Nat := match LAY k with
  | (0, 7) => k + (match i with | 0 => 1 | 1 => 2 | 2 => 5 | 3 => 10 | 4 => 11 | 5 => 12 | 6 => 13 | _ => 14)
  | (0, 8) => (match i with | 0 => 1 | 1 => 16 | 2 => 31 | 3 => 32 | 4 => 33 | 5 => 125 | 6 => 128 | 7 => 131 | _ => 132)
  | (0, 9) => (match i with | 0 => 164 | 1 => 165 | 2 => 166 | 4 => 167 | 5 => 168 | 6 => 169 | 8 => 170 | 9 => 171 | 10 => 172 | 12 => 173 | 18 => 174 | _ => 175)
  | (3, 2) => (match i with | 0 => 133 | _ => 148)
  | (3, _) => 35 + 15 * i
  | _ => k + 1 + i
def zfv (g : zGG) (φ : zPhi) (d : zMem) (k ci i : Nat) : Value := if isRf (tyc ci i) = true then (if φ.2 k i = true then .ref (gB g + RT k i) else .null) else .int (Int32.ofInt (d k (i : Int)))
def zent (g : zGG) (φ : zPhi) (d : zMem) (k : Nat) : va_E := match LAY k with
  | (0, ci) => .inr (ci, (List.range (ncl ci)).map (fun i => zfv g φ d k ci i))
  | (1, n) => .inl (gI g, n, .inl (fun i => Int32.ofInt (d k (i : Int))))
  | (2, n) => .inl (gZ g, n, .inl (fun i => Int32.ofInt (d k (i : Int))))
  | (_, n) => .inl (gR g, n, .inr (.inr (.inr (.inr (fun i => if φ.2 k i = true then some (gB g + RT k i) else none)))))
def zsz (k : Nat) : Nat := match LAY k with
  | (0, ci) => ncl ci
  | (_, n) => n
def zsl : Nat → Nat
  | 0 => 0
  | n + 1 => zsl n + zsz n
theorem zsl_mono {a b : Nat} (h : a ≤ b) : zsl a ≤ zsl b := by
  induction h with
  | refl => exact Nat.le_refl _
  | step _ ih => exact Nat.le_trans ih (Nat.le_add_right _ _)
def zH (g : zGG) (φ : zPhi) (d : zMem) (H : Heap) : Prop := ∀ k, k < φ.1 → va_at (gD g) cls (gB g + k, zent g φ d k) H
-- words
def isNest : Cond → Bool
  | .fieldLinkNest .. => true
  | .methodLinkNest .. => true
  | _ => false
def NW : List Cond := lw_tbl.filter isNest
def GW : List Cond := lw_tbl.filter goodWord
theorem inGW {w : Cond} (i : Nat) (h : lw_tbl[i]? = some w) (h2 : goodWord w = true) : w ∈ GW := List.mem_filter.mpr ⟨List.mem_of_getElem? h, h2⟩
theorem inNW {w : Cond} (i : Nat) (h : lw_tbl[i]? = some w) (h2 : isNest w = true) : w ∈ NW := List.mem_filter.mpr ⟨List.mem_of_getElem? h, h2⟩
theorem good_GW {w : Cond} (h : w ∈ GW) : (w.onTables && w.keeps) = true ∨ ∃ ty, w = .arrayClass ty := good_of_word (List.mem_filter.mp h).2
theorem goodIn_GW {ws : List Cond} (h : ∀ w ∈ ws, w ∈ GW) : GoodIn GW ws := fun w hw => ⟨h w hw, good_GW (h w hw)⟩
theorem NW_warm {s U : State} (hW : s.WarmedH U.vm) (h : ∀ w ∈ NW, va_Nw w s) : ∀ w ∈ NW, va_Nw w U := by
  intro w hw
  have h1 := h w hw
  have h2 := (List.mem_filter.mp hw).2
  cases w <;> first | exact va_Nw.warmF hW h1 | exact va_Nw.warmM hW h1 | (exact absurd h2 (by decide)) | (simp [isNest] at h2)
theorem NW_same {u U : State} (hv : u.vm = U.vm) (h : ∀ w ∈ NW, va_Nw w u) : ∀ w ∈ NW, va_Nw w U := by
  intro w hw
  have h1 := h w hw
  have h2 := (List.mem_filter.mp hw).2
  cases w <;> first | exact va_Nw.same rfl hv h1 | (simp [isNest] at h2)
def f1 (j : Nat) : Int := match j with | 0 => 2 | 1 => 6 | 2 => 3 | _ => 5
def f2 (j : Nat) : Int := match j with | 0 => 9 | 1 => 60 | 2 => 20 | _ => 50
def ztys (g : zGG) : List (ClassId × FieldType) := [(gI g, .int), (gZ g, .boolean), (gR g, .object RX7)]
def zKn (g : zGG) (U : State) : Prop := va_K (gD g) cls (ztys g) U ∧ (∀ w ∈ NW, va_Nw w U) ∧ va_AO RX7 U ∧
  va_Z RX8 "FIRST_SETTINGS" "[I" (.ref (gS1 g)) (gA g) U U.heap ∧ va_T .int (gS1 g) 4 (fun j => .int (Int32.ofInt (f1 j))) (gA g) U U.heap ∧
  va_Z RX8 "HIGHEST_SETTINGS" "[I" (.ref (gS2 g)) (gA g) U U.heap ∧ va_T .int (gS2 g) 4 (fun j => .int (Int32.ofInt (f2 j))) (gA g) U U.heap ∧ va_X (gX g) (gN g) (gxs g) U U.heap ∧ gX g < gB g
theorem zKn.calling {g : zGG} {U : State} (h : zKn g U) (fr : JFrame) (mk : MethodId) (a : Array Value) : zKn g (U.calling fr mk a) := by
  obtain ⟨h1, h2, h3, h4, h5, h6, h7, h8, h9⟩ := h
  refine ⟨va_K.moved (u := U) (Vm.Alike.refl U.vm) h1, NW_same (u := U) rfl h2, va_AO.moved (u := U) (Vm.Alike.refl U.vm) h3, ?_, ?_, ?_, ?_, ?_, h9⟩
  · exact va_Z.moved (u := U) (Vm.Alike.refl U.vm) h4
  · exact va_T.moved (u := U) (Vm.Alike.refl U.vm) h5
  · exact va_Z.moved (u := U) (Vm.Alike.refl U.vm) h6
  · exact va_T.moved (u := U) (Vm.Alike.refl U.vm) h7
  · exact va_X.moved (u := U) (Vm.Alike.refl U.vm) h8
theorem zKn.go {g : zGG} {s U : State} {H : Heap} {locs : List Loc} (h : zKn g s) (hS : va_S (gA g) s.heap H locs) (hU : U.heap = H) (hW : s.WarmedH U.vm) : zKn g U := by
  obtain ⟨h1, h2, h3, h4, h5, h6, h7, h8, h9⟩ := h
  have hq : ∀ a : Nat, a < s.heap.size → ¬ gA g a → U.heap[a]? = s.heap[a]? := fun a ha hn => by rw [hU]; exact hS.2.1 a ha hn
  refine ⟨va_K.moved hW.alike h1, NW_warm hW h2, va_AO.moved hW.alike h3, ?_, ?_, ?_, ?_, ?_, h9⟩
  · exact va_Z.moved hW.alike (h4.kept hq)
  · exact va_T.moved hW.alike (h5.kept hq)
  · exact va_Z.moved hW.alike (h6.kept hq)
  · exact va_T.moved hW.alike (h7.kept hq)
  · obtain ⟨scr, g1, g2⟩ := h8
    exact va_X.moved hW.alike (va_X.kept ⟨scr, g1, g2⟩ (hq _ (Array.getElem?_eq_some_iff.mp g1).1 (Nat.not_le.mpr h9)))
-- locals
def zLs (g : zGG) (n : Nat) (ls : List (Option zPV)) (A : Array Slot) : Prop := A.size = n ∧ lv_wf A ∧ ∀ (i : Nat) (v : zPV), ls[i]? = some (some v) → A[i]? = some (.val (zval g v))
def zla1 (g : zGG) (i : Nat) (x : Option (Option zPV)) : Option (Nat × Value) := match x with
  | some (some v) => some (i, zval g v)
  | _ => none
def zla (g : zGG) (ls : List (Option zPV)) : List (Nat × Value) := (List.range ls.length).filterMap (fun i => zla1 g i ls[i]?)
theorem zla_in {g : zGG} {ls : List (Option zPV)} {i : Nat} {v : zPV} (h : ls[i]? = some (some v)) : (i, zval g v) ∈ zla g ls :=
  List.mem_filterMap.mpr ⟨i, List.mem_range.mpr (List.getElem?_eq_some_iff.mp h).1, by rw [h]; rfl⟩
theorem zLs.has {g : zGG} {n : Nat} {ls : List (Option zPV)} {A : Array Slot} (h : zLs g n ls A) : lv_has A n (zla g ls) := by
  refine ⟨h.1, h.2.1, fun q hq => ?_⟩
  obtain ⟨i, -, h2⟩ := List.mem_filterMap.mp hq
  unfold zla1 at h2
  split at h2
  next v hv => cases h2; exact h.2.2 i v hv
  next => cases h2
def zst1 (i j : Nat) (x : Option (Option zPV)) : Option zPV := match x with
  | some (some w) => if j + 1 = i ∧ 6 ≤ w.1 then none else some w
  | _ => none
def zst (ls : List (Option zPV)) (i : Nat) (v : zPV) : List (Option zPV) := (List.range ls.length).map (fun j => if j = i then some v else zst1 i j ls[j]?)
def zst2 (ls : List (Option zPV)) (i : Nat) (v : zPV) : List (Option zPV) := (List.range ls.length).map (fun j => if j = i then some v else if j = i + 1 then none else zst1 i j ls[j]?)
theorem zval_cat2 {g : zGG} {v : zPV} (h : (zval g v).category = 2) : 6 ≤ v.1 := by
  rcases Nat.lt_or_ge v.1 6 with q | q
  · rw [zval_cat1 g v q] at h; cases h
  · exact q
theorem zst_of {g : zGG} {n i : Nat} {v : zPV} {ls : List (Option zPV)} {A : Array Slot} (h : lv_has A n ((i, zval g v) :: (zla g ls).filter (fun q => !(q.1 == i) && !(q.1 + 1 == i && q.2.category == 2)))) : zLs g n (zst ls i v) A := by
  refine ⟨h.1, h.2.1, fun j w hj => ?_⟩
  unfold zst at hj
  rw [List.getElem?_map] at hj
  cases hr : (List.range ls.length)[j]? with
  | none => rw [hr] at hj; cases hj
  | some j' =>
    rw [hr] at hj
    have e : j' = j := by
      have := List.getElem?_eq_some_iff.mp hr
      obtain ⟨h1, h2⟩ := this
      rw [List.getElem_range] at h2
      exact h2.symm
    subst e
    simp only [Option.map_some, Option.some.injEq] at hj
    by_cases hji : j' = i
    · rw [if_pos hji] at hj
      cases hj
      subst hji
      exact h.2.2 (j', zval g v) List.mem_cons_self
    · rw [if_neg hji] at hj
      unfold zst1 at hj
      split at hj
      next w' hw' =>
        split at hj
        next => cases hj
        next hc =>
          cases hj
          refine h.2.2 (j', zval g w) (List.mem_cons_of_mem _ (List.mem_filter.mpr ⟨zla_in hw', ?_⟩))
          simp only [Bool.and_eq_true, Bool.not_eq_true', beq_eq_false_iff_ne, ne_eq, Bool.and_eq_false_iff]
          refine ⟨hji, ?_⟩
          by_cases h1 : j' + 1 = i
          · refine Or.inr fun h2 => hc ⟨h1, zval_cat2 h2⟩
          · exact Or.inl h1
      next => cases hj
theorem zst2_of {g : zGG} {n i : Nat} {v : zPV} {ls : List (Option zPV)} {A : Array Slot} (h : lv_has A n ((i, zval g v) :: (zla g ls).filter (fun q => !(q.1 == i) && (!(q.1 == i + 1) && !(q.1 + 1 == i && q.2.category == 2))))) : zLs g n (zst2 ls i v) A := by
  refine ⟨h.1, h.2.1, fun j w hj => ?_⟩
  unfold zst2 at hj
  rw [List.getElem?_map] at hj
  cases hr : (List.range ls.length)[j]? with
  | none => rw [hr] at hj; cases hj
  | some j' =>
    rw [hr] at hj
    have e : j' = j := by
      have := List.getElem?_eq_some_iff.mp hr
      obtain ⟨h1, h2⟩ := this
      rw [List.getElem_range] at h2
      exact h2.symm
    subst e
    simp only [Option.map_some, Option.some.injEq] at hj
    by_cases hji : j' = i
    · rw [if_pos hji] at hj
      cases hj
      subst hji
      exact h.2.2 (j', zval g v) List.mem_cons_self
    · rw [if_neg hji] at hj
      by_cases hji2 : j' = i + 1
      · rw [if_pos hji2] at hj
        cases hj
      rw [if_neg hji2] at hj
      unfold zst1 at hj
      split at hj
      next w' hw' =>
        split at hj
        next => cases hj
        next hc =>
          cases hj
          refine h.2.2 (j', zval g w) (List.mem_cons_of_mem _ (List.mem_filter.mpr ⟨zla_in hw', ?_⟩))
          simp only [Bool.and_eq_true, Bool.not_eq_true', beq_eq_false_iff_ne, ne_eq, Bool.and_eq_false_iff]
          refine ⟨hji, hji2, ?_⟩
          by_cases h1 : j' + 1 = i
          · refine Or.inr fun h2 => hc ⟨h1, zval_cat2 h2⟩
          · exact Or.inl h1
      next => cases hj
-- methods
abbrev zMk : Type := MethodName × ByteArray × Nat × Option FieldType × Nat × Nat
def ky (k : zMk) : MethodName := k.1
def kown (k : zMk) : String := (ky k).cls
def kcode (k : zMk) : ByteArray := k.2.1
def kn (k : zMk) : Nat := k.2.2.1
def kret (k : zMk) : Option FieldType := k.2.2.2.1
def kfr (k : zMk) : Nat := k.2.2.2.2.1
def klo (k : zMk) : Nat := k.2.2.2.2.2
def kws (k : zMk) : List Cond := .code (ky k) (kcode k) (kn k) (kret k) :: GW
def krm (k : zMk) (φ φ' : zPhi) : Room := { frames := kfr k, cells := φ'.1 - φ.1, slots := zsl φ'.1 - zsl φ.1, locals := klo k }
abbrev zEE : Type := Room × zPhi × (Array Value → State → List Frame → State → Prop)
def zCx (g : zGG) (e : zEE) (k : zMk) (p : Program) (s : State) (m : MethodId) (args : Array Value) (meth : Method) (c : Code) : Prop :=
  p.tables.exec = Jvm.exec ∧ c.code = kcode k ∧ meth.sig.returnType = kret k ∧ c.maxLocals = kn k ∧ s.vm.findClass (kown k) = some m.cls ∧ (∀ w ∈ GW, w.before args s = true) ∧ zKn g s ∧ meth.locks = false ∧ s.heap.size = gB g + e.2.1.1 ∧ meth.name = (ky k).name
def Fr (g : zGG) (e : zEE) (k : zMk) (φ : zPhi) (pc : Nat) (ls : List (Option zPV)) (st : List zPV) (d : zMem) : Prop :=
  ∀ (p : Program) (ee : Env) (s : State) (m : MethodId) (args : Array Value) (below : List Frame) (meth : Method) (c : Code), zCx g e k p s m args meth c → e.2.1.1 ≤ φ.1 →
  ∀ (H : Heap) (locs : List Loc) (A : Array Slot), zH g φ d H → va_S (gA g) s.heap H locs → zLs g (kn k) ls A →
  W p (gL g) ee e.1 s m args below meth c H locs (φ.1 - e.2.1.1) (zsl φ.1 - zsl e.2.1.1) (e.2.2 args s below) (F0 m pc A (st.map (zval g)))
def zQc (g : zGG) (k : zMk) (φ' : zPhi) (Q : Int → zMem → Prop) : Array Value → State → Outcome → State → Prop := match kret k with
  | none => va_Qv (fun d' : zMem => Q 0 d') (fun d' t => zH g φ' d' t.heap) (gA g)
  | some _ => va_Qi (fun (r : Int32) (d' : zMem) => ∃ v : Int, r = Int32.ofInt v ∧ Q v d') (fun d' t => zH g φ' d' t.heap) (gA g)
def zPc (g : zGG) (φ φ' : zPhi) (args : List zPV) (d : zMem) : Array Value → State → Prop := fun av U => av = (args.map (zval g)).toArray ∧ zKn g U ∧ zH g φ d U.heap ∧ U.heap.size = gB g + φ.1 ∧ φ.1 ≤ φ'.1
def Ev (g : zGG) (k : zMk) (φ φ' : zPhi) (args : List zPV) (d : zMem) (Q : Int → zMem → Prop) : Prop :=
  Met (gL g) (ky k) (kws k) (krm k φ φ') (zPc g φ φ' args d) (zQc g k φ' Q) (φ'.1 - φ.1) (zsl φ'.1 - zsl φ.1) (gA g)
def eM (g : zGG) (k : zMk) (φ φ' : zPhi) (Q : Int → zMem → Prop) : zEE :=
  (krm k φ φ', φ, fun args s below => MQ below (zQc g k φ' Q) args s (φ'.1 - φ.1) (zsl φ'.1 - zsl φ.1) (gA g))
theorem zPc.blind {g : zGG} {φ φ' : zPhi} {args : List zPV} {d : zMem} : FrameBlind (zPc g φ φ' args d) := fun a U fr mk h => ⟨h.1, h.2.1.calling fr mk a, h.2.2.1, h.2.2.2.1, h.2.2.2.2⟩
-- a heap that holds the world has just so many cells
theorem zH.lt {g : zGG} {φ : zPhi} {d : zMem} {H : Heap} (h : zH g φ d H) {k : Nat} (hk : k < φ.1) : gB g + k < H.size := (h k hk).lt
theorem zH.size {g : zGG} {e : zEE} {k : zMk} {φ : zPhi} {d : zMem} {p : Program} {ee : Env} {s : State} {m : MethodId} {args : Array Value} {below : List Frame} {meth : Method} {c : Code} {H : Heap} {locs : List Loc} {T : State} {sl : Nat}
    (hC : zCx g e k p s m args meth c) (h0 : e.2.1.1 ≤ φ.1) (hH : zH g φ d H) (hS : va_S (gA g) s.heap H locs) (hT : T.heap = H) (X : Stand p (gL g) ee e.1 s m args below meth c T locs (φ.1 - e.2.1.1) sl) : H.size = gB g + φ.1 := by
  have h1 := X.heapSize
  rw [hT, hC.2.2.2.2.2.2.2.2.1] at h1
  have h2 := hS.1
  rw [hC.2.2.2.2.2.2.2.2.1] at h2
  rcases Nat.lt_or_ge e.2.1.1 φ.1 with q | q
  · have h3 := hH.lt (k := φ.1 - 1) (by omega)
    omega
  · omega
end
section
-- ROWS: an instruction each, over the pure machine
section
variable {g : zGG} {e : zEE} {k : zMk} {φ : zPhi} {pc : Nat} {ls : List (Option zPV)} {st : List zPV} {d : zMem}
theorem z_eqst {st st' : List zPV} (h : st = st') (hh : Fr g e k φ pc ls st' d) : Fr g e k φ pc ls st d := h ▸ hh
theorem z_iconst {n : Int} (hd : decode (kcode k) pc = .ok (.iconst n, 1)) (hh : Fr g e k φ (pc + 1) ls (zI n :: st) d) : Fr g e k φ pc ls (st) d := by
  intro p ee s m args below meth c hC h0 H locs A hH hS hl
  have hk := hh p ee s m args below meth c hC h0 H locs A hH hS hl
  exact lv_iconst hC.1 hC.2.1 hd rfl hk
theorem z_bipush {n : Int} (hd : decode (kcode k) pc = .ok (.bipush n, 2)) (hv : (Int8.ofInt n).toInt32 = Int32.ofInt n) (hh : Fr g e k φ (pc + 2) ls (zI n :: st) d) : Fr g e k φ pc ls (st) d := by
  intro p ee s m args below meth c hC h0 H locs A hH hS hl
  have hk := hh p ee s m args below meth c hC h0 H locs A hH hS hl
  exact lv_bipush hC.1 hC.2.1 hd hv hk
theorem z_sipush {n : Int} (hd : decode (kcode k) pc = .ok (.sipush n, 3)) (hv : (Int16.ofInt n).toInt32 = Int32.ofInt n) (hh : Fr g e k φ (pc + 3) ls (zI n :: st) d) : Fr g e k φ pc ls (st) d := by
  intro p ee s m args below meth c hC h0 H locs A hH hS hl
  have hk := hh p ee s m args below meth c hC h0 H locs A hH hS hl
  exact lv_sipush hC.1 hC.2.1 hd hv hk
theorem z_lconst {n : Fin 2} (hd : decode (kcode k) pc = .ok (.lconst n, 1)) {v : Int} (hv : Int64.ofNat (n : Nat) = Int64.ofInt v) (hh : Fr g e k φ (pc + 1) ls (zL v :: st) d) : Fr g e k φ pc ls (st) d := by
  intro p ee s m args below meth c hC h0 H locs A hH hS hl
  have hk := hh p ee s m args below meth c hC h0 H locs A hH hS hl
  exact lv_lconst hC.1 hC.2.1 hd hv hk
theorem z_iload_n {kf : Fin 4} {i : Nat} {x : Int} (hd : decode (kcode k) pc = .ok (.iload_n kf, 1)) (hi : (kf : Nat) = i) (hg : ls[i]? = some (some (zI x))) (hh : Fr g e k φ (pc + 1) ls (zI x :: st) d) : Fr g e k φ pc ls (st) d := by
  intro p ee s m args below meth c hC h0 H locs A hH hS hl
  have hk := hh p ee s m args below meth c hC h0 H locs A hH hS hl
  exact lv_iload_n hC.1 hC.2.1 hd hi (hl.2.2 _ _ hg) hk
theorem z_iload {i : Nat} {x : Int} (hd : decode (kcode k) pc = .ok (.iload i, 2)) (hg : ls[i]? = some (some (zI x))) (hh : Fr g e k φ (pc + 2) ls (zI x :: st) d) : Fr g e k φ pc ls (st) d := by
  intro p ee s m args below meth c hC h0 H locs A hH hS hl
  have hk := hh p ee s m args below meth c hC h0 H locs A hH hS hl
  exact lv_iload hC.1 hC.2.1 hd (hl.2.2 _ _ hg) hk
theorem z_lload_n {kf : Fin 4} {i : Nat} {x : Int} (hd : decode (kcode k) pc = .ok (.lload_n kf, 1)) (hi : (kf : Nat) = i) (hg : ls[i]? = some (some (zL x))) (hh : Fr g e k φ (pc + 1) ls (zL x :: st) d) : Fr g e k φ pc ls (st) d := by
  intro p ee s m args below meth c hC h0 H locs A hH hS hl
  have hk := hh p ee s m args below meth c hC h0 H locs A hH hS hl
  exact lv_lload_n hC.1 hC.2.1 hd hi (hl.2.2 _ _ hg) hk
theorem z_lload {i : Nat} {x : Int} (hd : decode (kcode k) pc = .ok (.lload i, 2)) (hg : ls[i]? = some (some (zL x))) (hh : Fr g e k φ (pc + 2) ls (zL x :: st) d) : Fr g e k φ pc ls (st) d := by
  intro p ee s m args below meth c hC h0 H locs A hH hS hl
  have hk := hh p ee s m args below meth c hC h0 H locs A hH hS hl
  exact lv_lload hC.1 hC.2.1 hd (hl.2.2 _ _ hg) hk
theorem z_aloadR_n {kf : Fin 4} {i : Nat} {x : Nat} (hd : decode (kcode k) pc = .ok (.aload_n kf, 1)) (hi : (kf : Nat) = i) (hg : ls[i]? = some (some (zR x))) (hh : Fr g e k φ (pc + 1) ls (zR x :: st) d) : Fr g e k φ pc ls (st) d := by
  intro p ee s m args below meth c hC h0 H locs A hH hS hl
  have hk := hh p ee s m args below meth c hC h0 H locs A hH hS hl
  exact lv_aload_n hC.1 hC.2.1 hd hi (hl.2.2 _ _ hg) hk
theorem z_aloadR {i : Nat} {x : Nat} (hd : decode (kcode k) pc = .ok (.aload i, 2)) (hg : ls[i]? = some (some (zR x))) (hh : Fr g e k φ (pc + 2) ls (zR x :: st) d) : Fr g e k φ pc ls (st) d := by
  intro p ee s m args below meth c hC h0 H locs A hH hS hl
  have hk := hh p ee s m args below meth c hC h0 H locs A hH hS hl
  exact lv_aload hC.1 hC.2.1 hd (hl.2.2 _ _ hg) hk
theorem z_aloadX_n {kf : Fin 4} {i : Nat}  (hd : decode (kcode k) pc = .ok (.aload_n kf, 1)) (hi : (kf : Nat) = i) (hg : ls[i]? = some (some (zX))) (hh : Fr g e k φ (pc + 1) ls (zX :: st) d) : Fr g e k φ pc ls (st) d := by
  intro p ee s m args below meth c hC h0 H locs A hH hS hl
  have hk := hh p ee s m args below meth c hC h0 H locs A hH hS hl
  exact lv_aload_n hC.1 hC.2.1 hd hi (hl.2.2 _ _ hg) hk
theorem z_aloadX {i : Nat}  (hd : decode (kcode k) pc = .ok (.aload i, 2)) (hg : ls[i]? = some (some (zX))) (hh : Fr g e k φ (pc + 2) ls (zX :: st) d) : Fr g e k φ pc ls (st) d := by
  intro p ee s m args below meth c hC h0 H locs A hH hS hl
  have hk := hh p ee s m args below meth c hC h0 H locs A hH hS hl
  exact lv_aload hC.1 hC.2.1 hd (hl.2.2 _ _ hg) hk
theorem z_istore_n {kf : Fin 4} {i : Nat} {x : Int} {ls2 : List (Option zPV)} (hd : decode (kcode k) pc = .ok (.istore_n kf, 1)) (hi : (kf : Nat) = i) (hn : i < kn k) (hz : zst ls i (zI x) = ls2) (hh : Fr g e k φ (pc + 1) ls2 st d) : Fr g e k φ pc ls (zI x :: st) d := by
  subst hz
  intro p ee s m args below meth c hC h0 H locs A hH hS hl
  exact lv_istore_n hC.1 hC.2.1 hd hi hl.has hn rfl (fun A2 hA2 => hh p ee s m args below meth c hC h0 H locs A2 hH hS (zst_of (v := zI x) hA2))
theorem z_istore {i : Nat} {x : Int} {ls2 : List (Option zPV)} (hd : decode (kcode k) pc = .ok (.istore i, 2)) (hn : i < kn k) (hz : zst ls i (zI x) = ls2) (hh : Fr g e k φ (pc + 2) ls2 st d) : Fr g e k φ pc ls (zI x :: st) d := by
  subst hz
  intro p ee s m args below meth c hC h0 H locs A hH hS hl
  exact lv_istore hC.1 hC.2.1 hd hl.has hn rfl (fun A2 hA2 => hh p ee s m args below meth c hC h0 H locs A2 hH hS (zst_of (v := zI x) hA2))
theorem z_astoreR_n {kf : Fin 4} {i : Nat} {x : Nat} {ls2 : List (Option zPV)} (hd : decode (kcode k) pc = .ok (.astore_n kf, 1)) (hi : (kf : Nat) = i) (hn : i < kn k) (hz : zst ls i (zR x) = ls2) (hh : Fr g e k φ (pc + 1) ls2 st d) : Fr g e k φ pc ls (zR x :: st) d := by
  subst hz
  intro p ee s m args below meth c hC h0 H locs A hH hS hl
  exact lv_astore_n hC.1 hC.2.1 hd hi hl.has hn rfl (fun A2 hA2 => hh p ee s m args below meth c hC h0 H locs A2 hH hS (zst_of (v := zR x) hA2))
theorem z_astoreR {i : Nat} {x : Nat} {ls2 : List (Option zPV)} (hd : decode (kcode k) pc = .ok (.astore i, 2)) (hn : i < kn k) (hz : zst ls i (zR x) = ls2) (hh : Fr g e k φ (pc + 2) ls2 st d) : Fr g e k φ pc ls (zR x :: st) d := by
  subst hz
  intro p ee s m args below meth c hC h0 H locs A hH hS hl
  exact lv_astore hC.1 hC.2.1 hd hl.has hn rfl (fun A2 hA2 => hh p ee s m args below meth c hC h0 H locs A2 hH hS (zst_of (v := zR x) hA2))
theorem z_lstore_n {kf : Fin 4} {i : Nat} {x : Int} {ls2 : List (Option zPV)} (hd : decode (kcode k) pc = .ok (.lstore_n kf, 1)) (hi : (kf : Nat) = i) (hn : i + 1 < kn k) (hz : zst2 ls i (zL x) = ls2) (hh : Fr g e k φ (pc + 1) ls2 st d) : Fr g e k φ pc ls (zL x :: st) d := by
  subst hz
  intro p ee s m args below meth c hC h0 H locs A hH hS hl
  exact lv_lstore_n hC.1 hC.2.1 hd hi hl.has hn rfl (fun A2 hA2 => hh p ee s m args below meth c hC h0 H locs A2 hH hS (zst2_of (v := zL x) hA2))
theorem z_lstore {i : Nat} {x : Int} {ls2 : List (Option zPV)} (hd : decode (kcode k) pc = .ok (.lstore i, 2)) (hn : i + 1 < kn k) (hz : zst2 ls i (zL x) = ls2) (hh : Fr g e k φ (pc + 2) ls2 st d) : Fr g e k φ pc ls (zL x :: st) d := by
  subst hz
  intro p ee s m args below meth c hC h0 H locs A hH hS hl
  exact lv_lstore hC.1 hC.2.1 hd hl.has hn rfl (fun A2 hA2 => hh p ee s m args below meth c hC h0 H locs A2 hH hS (zst2_of (v := zL x) hA2))
theorem zla_get {g : zGG} {ls : List (Option zPV)} {i : Nat} {v : zPV} (h : ls[i]? = some (some v)) : ∃ kk : Nat, (zla g ls)[kk]? = some (i, zval g v) := List.getElem?_of_mem (zla_in h)
theorem z_iinc {i : Nat} {n x : Int} {ls2 : List (Option zPV)} (hd : decode (kcode k) pc = .ok (.iinc i n, 3)) (hn : i < kn k) (hg : ls[i]? = some (some (zI x))) (hz : zst ls i (zI (x + n)) = ls2) (hh : Fr g e k φ (pc + 3) ls2 st d) : Fr g e k φ pc ls st d := by
  subst hz
  intro p ee s m args below meth c hC h0 H locs A hH hS hl
  obtain ⟨kk, hkk⟩ := zla_get (g := g) hg
  exact lv_iinc (v := Int32.ofInt (x + n)) hC.1 hC.2.1 hd hl.has hkk (Int32.ofInt_add x n).symm hn rfl (fun A2 hA2 => hh p ee s m args below meth c hC h0 H locs A2 hH hS (zst_of (v := zI (x + n)) hA2))
theorem z_iadd {x y : Int} (hd : decode (kcode k) pc = .ok (.iadd, 1)) (hh : Fr g e k φ (pc + 1) ls (zI (x + y) :: st) d) : Fr g e k φ pc ls (zI y :: zI x :: st) d := by
  intro p ee s m args below meth c hC h0 H locs A hH hS hl
  have hk := hh p ee s m args below meth c hC h0 H locs A hH hS hl
  exact lv_iadd hC.1 hC.2.1 hd (W.eq (by rw [List.map_cons, zval_I, Int32.ofInt_add]; rfl) hk)
theorem z_isub {x y : Int} (hd : decode (kcode k) pc = .ok (.isub, 1)) (hh : Fr g e k φ (pc + 1) ls (zI (x - y) :: st) d) : Fr g e k φ pc ls (zI y :: zI x :: st) d := by
  intro p ee s m args below meth c hC h0 H locs A hH hS hl
  have hk := hh p ee s m args below meth c hC h0 H locs A hH hS hl
  exact lv_isub hC.1 hC.2.1 hd (W.eq (by rw [List.map_cons, zval_I, Int32.ofInt_sub]; rfl) hk)
theorem z_imul {x y : Int} (hd : decode (kcode k) pc = .ok (.imul, 1)) (hh : Fr g e k φ (pc + 1) ls (zI (x * y) :: st) d) : Fr g e k φ pc ls (zI y :: zI x :: st) d := by
  intro p ee s m args below meth c hC h0 H locs A hH hS hl
  have hk := hh p ee s m args below meth c hC h0 H locs A hH hS hl
  exact lv_imul hC.1 hC.2.1 hd (W.eq (by rw [List.map_cons, zval_I, Int32.ofInt_mul]; rfl) hk)
theorem z_ineg {x : Int} (hd : decode (kcode k) pc = .ok (.ineg, 1)) (hh : Fr g e k φ (pc + 1) ls (zI (-x) :: st) d) : Fr g e k φ pc ls (zI x :: st) d := by
  intro p ee s m args below meth c hC h0 H locs A hH hS hl
  have hk := hh p ee s m args below meth c hC h0 H locs A hH hS hl
  exact lv_ineg hC.1 hC.2.1 hd (W.eq (by rw [List.map_cons, zval_I, Int32.ofInt_neg]; rfl) hk)
theorem ofI_div {x y : Int} (hx : 0 ≤ x) (hx2 : inR x) (hy : 0 < y) (hy2 : inR y) : Int32.ofInt x / Int32.ofInt y = Int32.ofInt (x / y) := by
  obtain ⟨a, rfl⟩ := Int.eq_ofNat_of_zero_le hx
  obtain ⟨b, rfl⟩ := Int.eq_ofNat_of_zero_le (Int.le_of_lt hy)
  have h1 := hx2.2
  have h2 := hy2.2
  rw [← Int.natCast_ediv, Int32.ofInt_eq_ofNat, Int32.ofInt_eq_ofNat, Int32.ofInt_eq_ofNat]
  exact pk_div (by omega) (by omega) (by omega)
theorem ofI_rem {x y : Int} (hx : 0 ≤ x) (hx2 : inR x) (hy : 0 < y) (hy2 : inR y) : Int32.ofInt x - Int32.ofInt x / Int32.ofInt y * Int32.ofInt y = Int32.ofInt (x % y) := by
  obtain ⟨a, rfl⟩ := Int.eq_ofNat_of_zero_le hx
  obtain ⟨b, rfl⟩ := Int.eq_ofNat_of_zero_le (Int.le_of_lt hy)
  have h1 := hx2.2
  have h2 := hy2.2
  rw [← Int.natCast_emod, Int32.ofInt_eq_ofNat, Int32.ofInt_eq_ofNat, Int32.ofInt_eq_ofNat]
  exact pk_rem (by omega) (by omega) (by omega)
theorem ofI_ne0 {y : Int} (hy : 0 < y) (hy2 : inR y) : ¬ Int32.ofInt y = 0 := by
  intro q
  have h : Int32.ofInt y = Int32.ofInt 0 := q
  rw [ofI_eq hy2 inR0] at h
  omega
theorem z_idiv {x y : Int} (hd : decode (kcode k) pc = .ok (.idiv, 1)) (hx : 0 ≤ x ∧ inR x ∧ 0 < y ∧ inR y) (hh : Fr g e k φ (pc + 1) ls (zI (x / y) :: st) d) : Fr g e k φ pc ls (zI y :: zI x :: st) d := by
  intro p ee s m args below meth c hC h0 H locs A hH hS hl
  have hk := hh p ee s m args below meth c hC h0 H locs A hH hS hl
  exact lv_idiv hC.1 hC.2.1 hd (ofI_ne0 hx.2.2.1 hx.2.2.2) (W.eq (by show F0 m (pc + 1) A (.int (Int32.ofInt x / Int32.ofInt y) :: _) = _; rw [ofI_div hx.1 hx.2.1 hx.2.2.1 hx.2.2.2]; rfl) hk)
theorem z_irem {x y : Int} (hd : decode (kcode k) pc = .ok (.irem, 1)) (hx : 0 ≤ x ∧ inR x ∧ 0 < y ∧ inR y) (hh : Fr g e k φ (pc + 1) ls (zI (x % y) :: st) d) : Fr g e k φ pc ls (zI y :: zI x :: st) d := by
  intro p ee s m args below meth c hC h0 H locs A hH hS hl
  have hk := hh p ee s m args below meth c hC h0 H locs A hH hS hl
  exact lv_irem hC.1 hC.2.1 hd (ofI_ne0 hx.2.2.1 hx.2.2.2) (W.eq (by show F0 m (pc + 1) A (.int (Int32.ofInt x - Int32.ofInt x / Int32.ofInt y * Int32.ofInt y) :: _) = _; rw [ofI_rem hx.1 hx.2.1 hx.2.2.1 hx.2.2.2]; rfl) hk)
theorem z_dup {v : zPV} (hd : decode (kcode k) pc = .ok (.dup, 1)) (hv : v.1 < 6) (hh : Fr g e k φ (pc + 1) ls (v :: v :: st) d) : Fr g e k φ pc ls (v :: st) d := by
  intro p ee s m args below meth c hC h0 H locs A hH hS hl
  have hk := hh p ee s m args below meth c hC h0 H locs A hH hS hl
  exact lv_dup hC.1 hC.2.1 hd (zval_cat1 g v hv) hk
theorem z_pop {v : zPV} (hd : decode (kcode k) pc = .ok (.pop, 1)) (hv : v.1 < 6) (hh : Fr g e k φ (pc + 1) ls (st) d) : Fr g e k φ pc ls (v :: st) d := by
  intro p ee s m args below meth c hC h0 H locs A hH hS hl
  have hk := hh p ee s m args below meth c hC h0 H locs A hH hS hl
  exact lv_pop hC.1 hC.2.1 hd (zval_cat1 g v hv) hk
theorem z_dup2 {v u : zPV} (hd : decode (kcode k) pc = .ok (.dup2, 1)) (hv : v.1 < 6) (hu : u.1 < 6) (hh : Fr g e k φ (pc + 1) ls (v :: u :: v :: u :: st) d) : Fr g e k φ pc ls (v :: u :: st) d := by
  intro p ee s m args below meth c hC h0 H locs A hH hS hl
  have hk := hh p ee s m args below meth c hC h0 H locs A hH hS hl
  exact lv_dup2_11 hC.1 hC.2.1 hd (zval_cat1 g v hv) (zval_cat1 g u hu) hk
theorem z_if_eq {x : Int} {off : Int} {tgt : Nat} (hd : decode (kcode k) pc = .ok (.ifCond .eq off, 3)) (ht : (pc : Int) + off = (tgt : Int)) (hr : inR x) (hh : (x = 0 → Fr g e k φ tgt ls st d) ∧ (¬ (x = 0) → Fr g e k φ (pc + 3) ls st d)) : Fr g e k φ pc ls (zI x :: st) d := by
  intro p ee s m args below meth c hC h0 H locs A hH hS hl
  exact lv_if_eq hC.1 hC.2.1 hd ht (fun q => hh.1 ((ofI_eq hr inR0).mp q) p ee s m args below meth c hC h0 H locs A hH hS hl) (fun q => hh.2 (fun z => q ((ofI_eq hr inR0).mpr z)) p ee s m args below meth c hC h0 H locs A hH hS hl)
theorem z_icmp_eq {x y : Int} {off : Int} {tgt : Nat} (hd : decode (kcode k) pc = .ok (.if_icmp .eq off, 3)) (ht : (pc : Int) + off = (tgt : Int)) (hr : inR x ∧ inR y) (hh : (x = y → Fr g e k φ tgt ls st d) ∧ (¬ (x = y) → Fr g e k φ (pc + 3) ls st d)) : Fr g e k φ pc ls (zI y :: zI x :: st) d := by
  intro p ee s m args below meth c hC h0 H locs A hH hS hl
  exact lv_icmp_eq hC.1 hC.2.1 hd ht (fun q => hh.1 ((ofI_eq hr.1 hr.2).mp q) p ee s m args below meth c hC h0 H locs A hH hS hl) (fun q => hh.2 (fun z => q ((ofI_eq hr.1 hr.2).mpr z)) p ee s m args below meth c hC h0 H locs A hH hS hl)
theorem z_if_ne {x : Int} {off : Int} {tgt : Nat} (hd : decode (kcode k) pc = .ok (.ifCond .ne off, 3)) (ht : (pc : Int) + off = (tgt : Int)) (hr : inR x) (hh : (x ≠ 0 → Fr g e k φ tgt ls st d) ∧ (¬ (x ≠ 0) → Fr g e k φ (pc + 3) ls st d)) : Fr g e k φ pc ls (zI x :: st) d := by
  intro p ee s m args below meth c hC h0 H locs A hH hS hl
  exact lv_if_ne hC.1 hC.2.1 hd ht (fun q => hh.1 ((not_congr (ofI_eq hr inR0)).mp q) p ee s m args below meth c hC h0 H locs A hH hS hl) (fun q => hh.2 (fun z => z ((ofI_eq hr inR0).mp q)) p ee s m args below meth c hC h0 H locs A hH hS hl)
theorem z_icmp_ne {x y : Int} {off : Int} {tgt : Nat} (hd : decode (kcode k) pc = .ok (.if_icmp .ne off, 3)) (ht : (pc : Int) + off = (tgt : Int)) (hr : inR x ∧ inR y) (hh : (x ≠ y → Fr g e k φ tgt ls st d) ∧ (¬ (x ≠ y) → Fr g e k φ (pc + 3) ls st d)) : Fr g e k φ pc ls (zI y :: zI x :: st) d := by
  intro p ee s m args below meth c hC h0 H locs A hH hS hl
  exact lv_icmp_ne hC.1 hC.2.1 hd ht (fun q => hh.1 ((not_congr (ofI_eq hr.1 hr.2)).mp q) p ee s m args below meth c hC h0 H locs A hH hS hl) (fun q => hh.2 (fun z => z ((ofI_eq hr.1 hr.2).mp q)) p ee s m args below meth c hC h0 H locs A hH hS hl)
theorem z_if_lt {x : Int} {off : Int} {tgt : Nat} (hd : decode (kcode k) pc = .ok (.ifCond .lt off, 3)) (ht : (pc : Int) + off = (tgt : Int)) (hr : inR x) (hh : (x < 0 → Fr g e k φ tgt ls st d) ∧ (¬ (x < 0) → Fr g e k φ (pc + 3) ls st d)) : Fr g e k φ pc ls (zI x :: st) d := by
  intro p ee s m args below meth c hC h0 H locs A hH hS hl
  exact lv_if_lt hC.1 hC.2.1 hd ht (fun q => hh.1 ((ofI_lt hr inR0).mp q) p ee s m args below meth c hC h0 H locs A hH hS hl) (fun q => hh.2 (fun z => q ((ofI_lt hr inR0).mpr z)) p ee s m args below meth c hC h0 H locs A hH hS hl)
theorem z_icmp_lt {x y : Int} {off : Int} {tgt : Nat} (hd : decode (kcode k) pc = .ok (.if_icmp .lt off, 3)) (ht : (pc : Int) + off = (tgt : Int)) (hr : inR x ∧ inR y) (hh : (x < y → Fr g e k φ tgt ls st d) ∧ (¬ (x < y) → Fr g e k φ (pc + 3) ls st d)) : Fr g e k φ pc ls (zI y :: zI x :: st) d := by
  intro p ee s m args below meth c hC h0 H locs A hH hS hl
  exact lv_icmp_lt hC.1 hC.2.1 hd ht (fun q => hh.1 ((ofI_lt hr.1 hr.2).mp q) p ee s m args below meth c hC h0 H locs A hH hS hl) (fun q => hh.2 (fun z => q ((ofI_lt hr.1 hr.2).mpr z)) p ee s m args below meth c hC h0 H locs A hH hS hl)
theorem z_if_ge {x : Int} {off : Int} {tgt : Nat} (hd : decode (kcode k) pc = .ok (.ifCond .ge off, 3)) (ht : (pc : Int) + off = (tgt : Int)) (hr : inR x) (hh : (0 ≤ x → Fr g e k φ tgt ls st d) ∧ (¬ (0 ≤ x) → Fr g e k φ (pc + 3) ls st d)) : Fr g e k φ pc ls (zI x :: st) d := by
  intro p ee s m args below meth c hC h0 H locs A hH hS hl
  exact lv_if_ge hC.1 hC.2.1 hd ht (fun q => hh.1 ((ofI_le inR0 hr).mp q) p ee s m args below meth c hC h0 H locs A hH hS hl) (fun q => hh.2 (fun z => q ((ofI_le inR0 hr).mpr z)) p ee s m args below meth c hC h0 H locs A hH hS hl)
theorem z_icmp_ge {x y : Int} {off : Int} {tgt : Nat} (hd : decode (kcode k) pc = .ok (.if_icmp .ge off, 3)) (ht : (pc : Int) + off = (tgt : Int)) (hr : inR x ∧ inR y) (hh : (y ≤ x → Fr g e k φ tgt ls st d) ∧ (¬ (y ≤ x) → Fr g e k φ (pc + 3) ls st d)) : Fr g e k φ pc ls (zI y :: zI x :: st) d := by
  intro p ee s m args below meth c hC h0 H locs A hH hS hl
  exact lv_icmp_ge hC.1 hC.2.1 hd ht (fun q => hh.1 ((ofI_le hr.2 hr.1).mp q) p ee s m args below meth c hC h0 H locs A hH hS hl) (fun q => hh.2 (fun z => q ((ofI_le hr.2 hr.1).mpr z)) p ee s m args below meth c hC h0 H locs A hH hS hl)
theorem z_if_gt {x : Int} {off : Int} {tgt : Nat} (hd : decode (kcode k) pc = .ok (.ifCond .gt off, 3)) (ht : (pc : Int) + off = (tgt : Int)) (hr : inR x) (hh : (0 < x → Fr g e k φ tgt ls st d) ∧ (¬ (0 < x) → Fr g e k φ (pc + 3) ls st d)) : Fr g e k φ pc ls (zI x :: st) d := by
  intro p ee s m args below meth c hC h0 H locs A hH hS hl
  exact lv_if_gt hC.1 hC.2.1 hd ht (fun q => hh.1 ((ofI_lt inR0 hr).mp q) p ee s m args below meth c hC h0 H locs A hH hS hl) (fun q => hh.2 (fun z => q ((ofI_lt inR0 hr).mpr z)) p ee s m args below meth c hC h0 H locs A hH hS hl)
theorem z_icmp_gt {x y : Int} {off : Int} {tgt : Nat} (hd : decode (kcode k) pc = .ok (.if_icmp .gt off, 3)) (ht : (pc : Int) + off = (tgt : Int)) (hr : inR x ∧ inR y) (hh : (y < x → Fr g e k φ tgt ls st d) ∧ (¬ (y < x) → Fr g e k φ (pc + 3) ls st d)) : Fr g e k φ pc ls (zI y :: zI x :: st) d := by
  intro p ee s m args below meth c hC h0 H locs A hH hS hl
  exact lv_icmp_gt hC.1 hC.2.1 hd ht (fun q => hh.1 ((ofI_lt hr.2 hr.1).mp q) p ee s m args below meth c hC h0 H locs A hH hS hl) (fun q => hh.2 (fun z => q ((ofI_lt hr.2 hr.1).mpr z)) p ee s m args below meth c hC h0 H locs A hH hS hl)
theorem z_if_le {x : Int} {off : Int} {tgt : Nat} (hd : decode (kcode k) pc = .ok (.ifCond .le off, 3)) (ht : (pc : Int) + off = (tgt : Int)) (hr : inR x) (hh : (x ≤ 0 → Fr g e k φ tgt ls st d) ∧ (¬ (x ≤ 0) → Fr g e k φ (pc + 3) ls st d)) : Fr g e k φ pc ls (zI x :: st) d := by
  intro p ee s m args below meth c hC h0 H locs A hH hS hl
  exact lv_if_le hC.1 hC.2.1 hd ht (fun q => hh.1 ((ofI_le hr inR0).mp q) p ee s m args below meth c hC h0 H locs A hH hS hl) (fun q => hh.2 (fun z => q ((ofI_le hr inR0).mpr z)) p ee s m args below meth c hC h0 H locs A hH hS hl)
theorem z_icmp_le {x y : Int} {off : Int} {tgt : Nat} (hd : decode (kcode k) pc = .ok (.if_icmp .le off, 3)) (ht : (pc : Int) + off = (tgt : Int)) (hr : inR x ∧ inR y) (hh : (x ≤ y → Fr g e k φ tgt ls st d) ∧ (¬ (x ≤ y) → Fr g e k φ (pc + 3) ls st d)) : Fr g e k φ pc ls (zI y :: zI x :: st) d := by
  intro p ee s m args below meth c hC h0 H locs A hH hS hl
  exact lv_icmp_le hC.1 hC.2.1 hd ht (fun q => hh.1 ((ofI_le hr.1 hr.2).mp q) p ee s m args below meth c hC h0 H locs A hH hS hl) (fun q => hh.2 (fun z => q ((ofI_le hr.1 hr.2).mpr z)) p ee s m args below meth c hC h0 H locs A hH hS hl)
theorem z_icmp_eq_same {x : Int} {off : Int} {tgt : Nat} (hd : decode (kcode k) pc = .ok (.if_icmp .eq off, 3)) (ht : (pc : Int) + off = (tgt : Int)) (hh : Fr g e k φ tgt ls st d) : Fr g e k φ pc ls (zI x :: zI x :: st) d := by
  intro p ee s m args below meth c hC h0 H locs A hH hS hl
  exact lv_icmp_eq hC.1 hC.2.1 hd ht (fun q => hh p ee s m args below meth c hC h0 H locs A hH hS hl) (fun q => absurd rfl q)
theorem z_goto {off : Int} {tgt : Nat} (hd : decode (kcode k) pc = .ok (.goto off, 3)) (ht : (pc : Int) + off = (tgt : Int)) (hh : Fr g e k φ tgt ls (st) d) : Fr g e k φ pc ls (st) d := by
  intro p ee s m args below meth c hC h0 H locs A hH hS hl
  have hk := hh p ee s m args below meth c hC h0 H locs A hH hS hl
  exact lv_goto hC.1 hC.2.1 hd ht hk
theorem z_ifnonnull {x : Nat} {off : Int} {tgt : Nat} (hd : decode (kcode k) pc = .ok (.ifnonnull off, 3)) (ht : (pc : Int) + off = (tgt : Int)) (hh : Fr g e k φ tgt ls (st) d) : Fr g e k φ pc ls (zR x :: st) d := by
  intro p ee s m args below meth c hC h0 H locs A hH hS hl
  have hk := hh p ee s m args below meth c hC h0 H locs A hH hS hl
  exact lv_ifnonnull hC.1 hC.2.1 hd ht hk
theorem z_ifnull {x : Nat} {off : Int} (hd : decode (kcode k) pc = .ok (.ifnull off, 3)) (hh : Fr g e k φ (pc + 3) ls (st) d) : Fr g e k φ pc ls (zR x :: st) d := by
  intro p ee s m args below meth c hC h0 H locs A hH hS hl
  have hk := hh p ee s m args below meth c hC h0 H locs A hH hS hl
  exact lv_ifnull hC.1 hC.2.1 hd hk
theorem z_tsOut {x dflt lo hi : Int} {offs : Array Int} {len tgt : Nat} (hd : decode (kcode k) pc = .ok (.tableswitch dflt lo hi offs, len)) (ht : (pc : Int) + dflt = (tgt : Int)) (hr : inR x) (hx : x < lo ∨ hi < x) (hh : Fr g e k φ tgt ls (st) d) : Fr g e k φ pc ls (zI x :: st) d := by
  intro p ee s m args below meth c hC h0 H locs A hH hS hl
  have hk := hh p ee s m args below meth c hC h0 H locs A hH hS hl
  exact lv_tableOut hC.1 hC.2.1 hd (by rw [show (Int32.ofInt (zI x).2).toInt = x from ti_of hr]; exact hx) ht hk
theorem z_tsCase (i : Int) {x dflt lo hi off : Int} {offs : Array Int} {len tgt : Nat} (hd : decode (kcode k) pc = .ok (.tableswitch dflt lo hi offs, len)) (ho : offs[(i - lo).toNat]? = some off) (ht : (pc : Int) + off = (tgt : Int)) (hi : lo ≤ i ∧ i ≤ hi ∧ inR i) (hx : x = i) (hh : Fr g e k φ tgt ls (st) d) : Fr g e k φ pc ls (zI x :: st) d := by
  intro p ee s m args below meth c hC h0 H locs A hH hS hl
  have hk := hh p ee s m args below meth c hC h0 H locs A hH hS hl
  subst hx; exact lv_tableIn hC.1 hC.2.1 hd (by rw [show (Int32.ofInt (zI x).2).toInt = x from ti_of hi.2.2]; have := hi.1; omega) (by rw [show (Int32.ofInt (zI x).2).toInt = x from ti_of hi.2.2]; have := hi.2.1; omega) (by rw [show (Int32.ofInt (zI x).2).toInt = x from ti_of hi.2.2]; exact ho) ht hk
theorem z_lk {x dflt off : Int} {ps : Array (Int × Int)} {len tgt : Nat} (hd : decode (kcode k) pc = .ok (.lookupswitch dflt ps, len)) (hp : (ps.toList.zip (ps.toList.drop 1)).all (fun (a, next) => a.1 < next.1) = true) (hr : inR x) (ho : Op.lookupswitch.offset ps.toList dflt x = off) (ht : (pc : Int) + off = (tgt : Int)) (hh : Fr g e k φ tgt ls (st) d) : Fr g e k φ pc ls (zI x :: st) d := by
  intro p ee s m args below meth c hC h0 H locs A hH hS hl
  have hk := hh p ee s m args below meth c hC h0 H locs A hH hS hl
  exact lv_lookup hC.1 hC.2.1 hd hp (by rw [show (Int32.ofInt (zI x).2).toInt = x from ti_of hr]; exact ho) ht hk
end
end
section
-- ROWS: memory, calls, ends, over the pure machine
def rup (r : Int → Int) (i v : Int) : Int → Int := fun j => if j = i then v else r j
def mrow (d : zMem) (a : Nat) (r : Int → Int) : zMem := fun k => if k = a then r else d k
def mu (d : zMem) (a : Nat) (i v : Int) : zMem := mrow d a (rup (d a) i v)
theorem mrow_ne {d : zMem} {a k : Nat} {r : Int → Int} (h : k ≠ a) : mrow d a r k = d k := if_neg h
theorem mrow_eq {d : zMem} {a : Nat} {r : Int → Int} : mrow d a r a = r := if_pos rfl
theorem cls_at {ci : Nat} (h : ci < 10) : cls[ci]? = some (RXc ci, TXc ci, ncl ci) := by simp [cls, h]
theorem TXc_dec : ∀ ci, ci < 10 → ∀ fk, fk < ncl ci → (TXc ci fk).1 = RXc ci := by decide +kernel
theorem tyc_ok : ∀ ci, ci < 10 → ∀ fk, fk < ncl ci → parseFieldDescriptor (TXc ci fk).2.2.1 = some (tyc ci fk) := by decide +kernel
theorem nmc_ok : ∀ ci, ci < 10 → ∀ a, a < ncl ci → ∀ b, b < ncl ci → a ≠ b → (TXc ci a).2.1 ≠ (TXc ci b).2.1 := by decide +kernel
theorem ws_GW : ∀ ci, ci < 10 → ∀ w ∈ u_ws (RXc ci) (TXc ci) (ncl ci), w ∈ GW := by
  have h : ∀ ci, ci < 10 → ∀ w ∈ u_ws (RXc ci) (TXc ci) (ncl ci), w ∈ lw_tbl ∧ goodWord w = true := by decide +kernel
  exact fun ci hci w hw => List.mem_filter.mpr (h ci hci w hw)
theorem zent_congr {g : zGG} {φ φ' : zPhi} {d d' : zMem} {k : Nat} (hd : d' k = d k) (hp : ∀ i, φ'.2 k i = φ.2 k i) : zent g φ' d' k = zent g φ d k := by
  unfold zent zfv
  simp only [hd, hp]
theorem zent_obj {g : zGG} {φ : zPhi} {d : zMem} {a ci : Nat} (h : LAY a = (0, ci)) : zent g φ d a = .inr (ci, (List.range (ncl ci)).map (fun i => zfv g φ d a ci i)) := by
  unfold zent; rw [h]; rfl
theorem zent_int {g : zGG} {φ : zPhi} {d : zMem} {a n : Nat} (h : LAY a = (1, n)) : zent g φ d a = .inl (gI g, n, .inl (fun i => Int32.ofInt (d a (i : Int)))) := by
  unfold zent; rw [h]; rfl
theorem zent_bool {g : zGG} {φ : zPhi} {d : zMem} {a n : Nat} (h : LAY a = (2, n)) : zent g φ d a = .inl (gZ g, n, .inl (fun i => Int32.ofInt (d a (i : Int)))) := by
  unfold zent; rw [h]; rfl
theorem zent_ref {g : zGG} {φ : zPhi} {d : zMem} {a n : Nat} (h : LAY a = (3, n)) : zent g φ d a = .inl (gR g, n, .inr (.inr (.inr (.inr (fun i => if φ.2 a i = true then some (gB g + RT a i) else none))))) := by
  unfold zent; rw [h]; rfl
def zwl (g : zGG) (φ : zPhi) (d : zMem) : va_W := (List.range φ.1).map (fun k => (gB g + k, zent g φ d k))
theorem zwl_get {g : zGG} {φ : zPhi} {d : zMem} {k : Nat} (h : k < φ.1) : (zwl g φ d)[k]? = some (gB g + k, zent g φ d k) := by
  unfold zwl
  rw [List.getElem?_map, List.getElem?_range h]
  rfl
theorem zwl_inv {g : zGG} {φ : zPhi} {d : zMem} {k : Nat} {q : Nat × va_E} (h : (zwl g φ d)[k]? = some q) : k < φ.1 ∧ q = (gB g + k, zent g φ d k) := by
  have h1 : k < φ.1 := by
    have := (List.getElem?_eq_some_iff.mp h).1
    unfold zwl at this
    rwa [List.length_map, List.length_range] at this
  rw [zwl_get h1] at h
  exact ⟨h1, (Option.some.inj h).symm⟩
theorem zwl_P {g : zGG} {φ : zPhi} {d : zMem} {H : Heap} (h : zH g φ d H) : va_P (gD g) cls (zwl g φ d) H := by
  intro k q hk
  obtain ⟨h1, rfl⟩ := zwl_inv hk
  exact h k h1
theorem zwl_D {g : zGG} {φ : zPhi} {d : zMem} : va_D (gA g) (zwl g φ d) := by
  refine ⟨fun i j p q hi hj hpq => ?_, fun k q hk => ?_⟩
  · obtain ⟨-, rfl⟩ := zwl_inv hi
    obtain ⟨-, rfl⟩ := zwl_inv hj
    have : gB g + i = gB g + j := hpq
    omega
  · obtain ⟨-, rfl⟩ := zwl_inv hk
    exact Nat.le_add_right _ _
theorem zH_set {g : zGG} {φ φ' : zPhi} {d d' : zMem} {H : Heap} {a : Nat} {e' : va_E} (ha : a < φ.1) (h1 : φ'.1 = φ.1) (hP : va_P (gD g) cls ((zwl g φ d).set a (gB g + a, e')) H) (he : zent g φ' d' a = e') (ho : ∀ k, k ≠ a → zent g φ' d' k = zent g φ d k) : zH g φ' d' H := by
  intro k hk
  rw [h1] at hk
  by_cases hka : k = a
  · subst hka
    rw [he]
    refine hP k (gB g + k, e') ?_
    rw [List.getElem?_set_self]
    unfold zwl
    rw [List.length_map, List.length_range]
    exact hk
  · rw [ho k hka]
    refine hP k (gB g + k, zent g φ d k) ?_
    rw [List.getElem?_set_ne (Ne.symm hka)]
    exact zwl_get hk
theorem vin_of {i : Int} {n : Nat} (h : 0 ≤ i ∧ i < n) (hn : n < 2 ^ 31) : vp_in (Int32.ofInt i) n ∧ (Int32.ofInt i).toNatClampNeg = i.toNat := by
  have hr : inR i := ⟨by omega, by omega⟩
  refine ⟨vp_in_iff.mpr ?_, Int32.toNatClampNeg_ofInt_of_le (by omega) (by omega)⟩
  rw [ti_of hr]
  exact h
theorem upd_of {r : Int → Int} {i v : Int} (h : 0 ≤ i) : (fun j : Nat => Int32.ofInt (rup r i v (j : Int))) = upd (fun j : Nat => Int32.ofInt (r (j : Int))) i.toNat (Int32.ofInt v) := by
  funext j
  unfold rup upd
  by_cases hj : j = i.toNat
  · rw [if_pos (by omega), if_pos hj]
  · rw [if_neg (by omega), if_neg hj]
section
variable {g : zGG} {e : zEE} {k : zMk} {φ : zPhi} {pc : Nat} {ls : List (Option zPV)} {st : List zPV} {d : zMem}
-- arrays
theorem z_iaload {a n : Nat} {i : Int} (hL : LAY a = (1, n)) (ha : a < φ.1) (hn : n < 2 ^ 31) (hd : decode (kcode k) pc = .ok (.iaload, 1)) (hi : 0 ≤ i ∧ i < n) (hh : Fr g e k φ (pc + 1) ls (zI (d a i) :: st) d) : Fr g e k φ pc ls (zI i :: zR a :: st) d := by
  intro p ee s m args below meth c hC h0 H locs A hH hS hl
  have hk := hh p ee s m args below meth c hC h0 H locs A hH hS hl
  have hv := vin_of hi hn
  have ha' := zwl_get (g := g) (d := d) ha
  rw [zent_int hL] at ha'
  refine va_iald hC.1 hC.2.1 hC.2.2.2.2.2.2.1.1 (zwl_P hH) a 0 ha' rfl hv.1 hd (W.eq ?_ hk)
  show F0 m (pc + 1) A (.int (Int32.ofInt (d a (((Int32.ofInt i).toNatClampNeg : Nat) : Int))) :: _) = _
  rw [hv.2, Int.toNat_of_nonneg hi.1]
  rfl
theorem z_baload {a n : Nat} {i : Int} (hL : LAY a = (2, n)) (ha : a < φ.1) (hn : n < 2 ^ 31) (hd : decode (kcode k) pc = .ok (.baload, 1)) (hi : 0 ≤ i ∧ i < n) (hh : Fr g e k φ (pc + 1) ls (zI (d a i) :: st) d) : Fr g e k φ pc ls (zI i :: zR a :: st) d := by
  intro p ee s m args below meth c hC h0 H locs A hH hS hl
  have hk := hh p ee s m args below meth c hC h0 H locs A hH hS hl
  have hv := vin_of hi hn
  have ha' := zwl_get (g := g) (d := d) ha
  rw [zent_bool hL] at ha'
  refine va_zald hC.1 hC.2.1 hC.2.2.2.2.2.2.1.1 (zwl_P hH) a 1 ha' rfl hv.1 hd (W.eq ?_ hk)
  show F0 m (pc + 1) A (.int (Int32.ofInt (d a (((Int32.ofInt i).toNatClampNeg : Nat) : Int))) :: _) = _
  rw [hv.2, Int.toNat_of_nonneg hi.1]
  rfl
theorem z_aaload {a n : Nat} {i : Int} (hL : LAY a = (3, n)) (ha : a < φ.1) (hn : n < 2 ^ 31) (hd : decode (kcode k) pc = .ok (.aaload, 1)) (hi : 0 ≤ i ∧ i < n) (hw : φ.2 a i.toNat = true) (hh : Fr g e k φ (pc + 1) ls (zR (RT a i.toNat) :: st) d) : Fr g e k φ pc ls (zI i :: zR a :: st) d := by
  intro p ee s m args below meth c hC h0 H locs A hH hS hl
  have hk := hh p ee s m args below meth c hC h0 H locs A hH hS hl
  have hv := vin_of hi hn
  have ha' := zwl_get (g := g) (d := d) ha
  rw [zent_ref hL] at ha'
  refine va_aldq (C := RX7) hC.1 hC.2.1 hC.2.2.2.2.2.2.1.1 (zwl_P hH) a 2 ha' rfl hv.1 hd (W.eq ?_ hk)
  show F0 m (pc + 1) A (va_rf (if φ.2 a (Int32.ofInt i).toNatClampNeg = true then some (gB g + RT a (Int32.ofInt i).toNatClampNeg) else none) :: _) = _
  rw [hv.2, if_pos hw]
  rfl
theorem z_alen {a q n : Nat} (hL : LAY a = (q, n)) (hq : q = 1 ∨ q = 2 ∨ q = 3) (ha : a < φ.1) (hd : decode (kcode k) pc = .ok (.arraylength, 1)) (hh : Fr g e k φ (pc + 1) ls (zI (n : Int) :: st) d) : Fr g e k φ pc ls (zR a :: st) d := by
  intro p ee s m args below meth c hC h0 H locs A hH hS hl
  have hk := hh p ee s m args below meth c hC h0 H locs A hH hS hl
  have ha' := zwl_get (g := g) (d := d) ha
  rcases hq with rfl | rfl | rfl
  · rw [zent_int hL] at ha'
    exact va_alen hC.1 hC.2.1 hC.2.2.2.2.2.2.1.1 (zwl_P hH) a 0 ha' rfl (v := Int32.ofInt (n : Int)) Int32.ofInt_eq_ofNat.symm hd hk
  · rw [zent_bool hL] at ha'
    exact va_alen hC.1 hC.2.1 hC.2.2.2.2.2.2.1.1 (zwl_P hH) a 1 ha' rfl (v := Int32.ofInt (n : Int)) Int32.ofInt_eq_ofNat.symm hd hk
  · rw [zent_ref hL] at ha'
    exact va_alen hC.1 hC.2.1 hC.2.2.2.2.2.2.1.1 (zwl_P hH) a 2 ha' rfl (v := Int32.ofInt (n : Int)) Int32.ofInt_eq_ofNat.symm hd hk
theorem z_iastore {a n : Nat} {i v : Int} (hL : LAY a = (1, n)) (ha : a < φ.1) (hn : n < 2 ^ 31) (hd : decode (kcode k) pc = .ok (.iastore, 1)) (hi : 0 ≤ i ∧ i < n) (hh : Fr g e k φ (pc + 1) ls st (mu d a i v)) : Fr g e k φ pc ls (zI v :: zI i :: zR a :: st) d := by
  intro p ee s m args below meth c hC h0 H locs A hH hS hl
  have hv := vin_of hi hn
  have ha' := zwl_get (g := g) (d := d) ha
  rw [zent_int hL] at ha'
  refine va_iast hC.1 hC.2.1 hC.2.2.2.2.2.2.1.1 (zwl_P hH) zwl_D hS a 0 ha' rfl hv.1 hd (fun H1 locs1 hP hD hS1 => ?_)
  refine hh p ee s m args below meth c hC h0 H1 locs1 A (zH_set ha rfl hP ?_ (fun q hq => zent_congr (mrow_ne hq) (fun _ => rfl))) hS1 hl
  rw [zent_int hL, show (Int32.ofInt (zI i).2).toNatClampNeg = i.toNat from hv.2]
  show Sum.inl (gI g, n, Sum.inl (fun j : Nat => Int32.ofInt (mrow d a (rup (d a) i v) a (j : Int)))) = _
  rw [mrow_eq, upd_of hi.1]
  rfl
theorem nar_bool {v : Int} (hv : v = 0 ∨ v = 1) : vp_nar .boolean (Int32.ofInt v) = Int32.ofInt v := by
  rcases hv with rfl | rfl <;> decide +kernel
theorem z_bastore {a n : Nat} {i v : Int} (hL : LAY a = (2, n)) (ha : a < φ.1) (hn : n < 2 ^ 31) (hd : decode (kcode k) pc = .ok (.bastore, 1)) (hi : 0 ≤ i ∧ i < n) (hb : v = 0 ∨ v = 1) (hh : Fr g e k φ (pc + 1) ls st (mu d a i v)) : Fr g e k φ pc ls (zI v :: zI i :: zR a :: st) d := by
  intro p ee s m args below meth c hC h0 H locs A hH hS hl
  have hv := vin_of hi hn
  have ha' := zwl_get (g := g) (d := d) ha
  rw [zent_bool hL] at ha'
  refine va_zast hC.1 hC.2.1 hC.2.2.2.2.2.2.1.1 (zwl_P hH) zwl_D hS a 1 ha' rfl hv.1 hd (fun H1 locs1 hP hD hS1 => ?_)
  refine hh p ee s m args below meth c hC h0 H1 locs1 A (zH_set ha rfl hP ?_ (fun q hq => zent_congr (mrow_ne hq) (fun _ => rfl))) hS1 hl
  rw [zent_bool hL, show (Int32.ofInt (zI i).2).toNatClampNeg = i.toNat from hv.2]
  show Sum.inl (gZ g, n, Sum.inl (fun j : Nat => Int32.ofInt (mrow d a (rup (d a) i v) a (j : Int)))) = Sum.inl (gZ g, n, Sum.inl (upd _ i.toNat (vp_nar .boolean (Int32.ofInt v))))
  rw [mrow_eq, upd_of hi.1, nar_bool hb]
def zw (φ : zPhi) (a fk : Nat) : zPhi := (φ.1, fun a' i' => (a' == a && i' == fk) || φ.2 a' i')
theorem z_aastore {a n b : Nat} {i : Int} (hL : LAY a = (3, n)) (ha : a < φ.1) (hn : n < 2 ^ 31) (hb : b < φ.1) (hLb : LAY b = (0, 7)) (hd : decode (kcode k) pc = .ok (.aastore, 1)) (hi : 0 ≤ i ∧ i < n) (hr : RT a i.toNat = b) (hh : Fr g e k (zw φ a i.toNat) (pc + 1) ls st d) : Fr g e k φ pc ls (zR b :: zI i :: zR a :: st) d := by
  intro p ee s m args below meth c hC h0 H locs A hH hS hl
  have hv := vin_of hi hn
  have ha' := zwl_get (g := g) (d := d) ha
  rw [zent_ref hL] at ha'
  have hb' := zwl_get (g := g) (d := d) hb
  rw [zent_obj hLb] at hb'
  refine va_astq (r := (RXc 7, TXc 7, ncl 7)) hC.1 hC.2.1 hC.2.2.2.2.2.2.1.1 (zwl_P hH) zwl_D hS a 2 b 7 ha' rfl hb' (cls_at (by decide)) hv.1 hd (fun H1 locs1 hP hD hS1 => ?_)
  refine hh p ee s m args below meth c hC h0 H1 locs1 A (zH_set ha rfl hP ?_ (fun q hq => zent_congr rfl (fun i' => ?_))) hS1 hl
  · rw [zent_ref hL, show (Int32.ofInt (zI i).2).toNatClampNeg = i.toNat from hv.2]
    congr 7
    funext j
    unfold va_up zw
    by_cases hj : j = i.toNat
    · subst hj
      simp [hr]
    · simp [hj]
  · simp [zw, hq]
-- fields
theorem z_getI (ci fk : Nat) {idx a : Nat} (hL : LAY a = (0, ci)) (hci : ci < 10) (hfk : fk < ncl ci) (ht : isRf (tyc ci fk) = false) (ha : a < φ.1) (hw : Cond.fieldLink (kown k) idx (RXc ci) (TXc ci fk).2.1 (TXc ci fk).2.2.1 ∈ GW) (hd : decode (kcode k) pc = .ok (.getfield idx, 3)) (hh : Fr g e k φ (pc + 3) ls (zI (d a (fk : Int)) :: st) d) : Fr g e k φ pc ls (zR a :: st) d := by
  intro p ee s m args below meth c hC h0 H locs A hH hS hl
  have hk := hh p ee s m args below meth c hC h0 H locs A hH hS hl
  have ha' := zwl_get (g := g) (d := d) ha
  rw [zent_obj hL] at ha'
  refine va_get hC.1 hC.2.1 hC.2.2.2.2.2.1 (ws_GW ci hci) hC.2.2.2.2.1 hC.2.2.2.2.2.2.1.1 (zwl_P hH) a ha' (cls_at hci) fk hfk (hC.2.2.2.2.2.1 _ hw) (fun x hx => by rw [← TXc_dec ci hci fk hfk]; exact hx) (v := .int (Int32.ofInt (d a (fk : Int)))) ?_ hd hk
  rw [List.getElem?_map, List.getElem?_range hfk]
  simp [zfv, ht]
theorem z_getR (ci fk : Nat) {idx a b : Nat} (hL : LAY a = (0, ci)) (hci : ci < 10) (hfk : fk < ncl ci) (ht : isRf (tyc ci fk) = true) (ha : a < φ.1) (hwi : φ.2 a fk = true) (hr : RT a fk = b) (hw : Cond.fieldLink (kown k) idx (RXc ci) (TXc ci fk).2.1 (TXc ci fk).2.2.1 ∈ GW) (hd : decode (kcode k) pc = .ok (.getfield idx, 3)) (hh : Fr g e k φ (pc + 3) ls (zR b :: st) d) : Fr g e k φ pc ls (zR a :: st) d := by
  intro p ee s m args below meth c hC h0 H locs A hH hS hl
  have hk := hh p ee s m args below meth c hC h0 H locs A hH hS hl
  have ha' := zwl_get (g := g) (d := d) ha
  rw [zent_obj hL] at ha'
  refine va_get hC.1 hC.2.1 hC.2.2.2.2.2.1 (ws_GW ci hci) hC.2.2.2.2.1 hC.2.2.2.2.2.2.1.1 (zwl_P hH) a ha' (cls_at hci) fk hfk (hC.2.2.2.2.2.1 _ hw) (fun x hx => by rw [← TXc_dec ci hci fk hfk]; exact hx) (v := .ref (gB g + b)) ?_ hd hk
  rw [List.getElem?_map, List.getElem?_range hfk]
  simp [zfv, ht, hwi, hr]
theorem z_getIN (ci fk : Nat) {idx a : Nat} {host : String} (hL : LAY a = (0, ci)) (hci : ci < 10) (hfk : fk < ncl ci) (ht : isRf (tyc ci fk) = false) (ha : a < φ.1) (hw : Cond.fieldLinkNest (kown k) idx (RXc ci) (TXc ci fk).2.1 (TXc ci fk).2.2.1 host ∈ NW) (hd : decode (kcode k) pc = .ok (.getfield idx, 3)) (hh : Fr g e k φ (pc + 3) ls (zI (d a (fk : Int)) :: st) d) : Fr g e k φ pc ls (zR a :: st) d := by
  intro p ee s m args below meth c hC h0 H locs A hH hS hl
  have hk := hh p ee s m args below meth c hC h0 H locs A hH hS hl
  have ha' := zwl_get (g := g) (d := d) ha
  rw [zent_obj hL] at ha'
  refine va_getN hC.1 hC.2.1 hC.2.2.2.2.2.1 (ws_GW ci hci) hC.2.2.2.2.1 hC.2.2.2.2.2.2.1.1 (zwl_P hH) a ha' (cls_at hci) fk hfk (va_Nw.use rfl (hC.2.2.2.2.2.2.1.2.1 _ hw)) (fun x hx => by rw [← TXc_dec ci hci fk hfk]; exact hx) (v := .int (Int32.ofInt (d a (fk : Int)))) ?_ hd hk
  rw [List.getElem?_map, List.getElem?_range hfk]
  simp [zfv, ht]
theorem z_getRN (ci fk : Nat) {idx a b : Nat} {host : String} (hL : LAY a = (0, ci)) (hci : ci < 10) (hfk : fk < ncl ci) (ht : isRf (tyc ci fk) = true) (ha : a < φ.1) (hwi : φ.2 a fk = true) (hr : RT a fk = b) (hw : Cond.fieldLinkNest (kown k) idx (RXc ci) (TXc ci fk).2.1 (TXc ci fk).2.2.1 host ∈ NW) (hd : decode (kcode k) pc = .ok (.getfield idx, 3)) (hh : Fr g e k φ (pc + 3) ls (zR b :: st) d) : Fr g e k φ pc ls (zR a :: st) d := by
  intro p ee s m args below meth c hC h0 H locs A hH hS hl
  have hk := hh p ee s m args below meth c hC h0 H locs A hH hS hl
  have ha' := zwl_get (g := g) (d := d) ha
  rw [zent_obj hL] at ha'
  refine va_getN hC.1 hC.2.1 hC.2.2.2.2.2.1 (ws_GW ci hci) hC.2.2.2.2.1 hC.2.2.2.2.2.2.1.1 (zwl_P hH) a ha' (cls_at hci) fk hfk (va_Nw.use rfl (hC.2.2.2.2.2.2.1.2.1 _ hw)) (fun x hx => by rw [← TXc_dec ci hci fk hfk]; exact hx) (v := .ref (gB g + b)) ?_ hd hk
  rw [List.getElem?_map, List.getElem?_range hfk]
  simp [zfv, ht, hwi, hr]
def okB (ty : FieldType) (v : Int) : Prop := ty = .int ∨ (ty = .boolean ∧ (v = 0 ∨ v = 1))
theorem okB_nar {ty : FieldType} {v : Int} (h : okB ty v) : narrow ty (.int (Int32.ofInt v)) = .int (Int32.ofInt v) ∧ fits ty (.int (Int32.ofInt v)) = true := by
  rcases h with rfl | ⟨rfl, rfl | rfl⟩
  · exact ⟨rfl, rfl⟩
  · exact ⟨by decide +kernel, by decide +kernel⟩
  · exact ⟨by decide +kernel, by decide +kernel⟩
theorem map_set_ext {n fk : Nat} {f f' : Nat → Value} {v : Value} (h1 : f' fk = v) (h2 : ∀ i, i ≠ fk → f' i = f i) : (List.range n).map f' = ((List.range n).map f).set fk v := by
  apply List.ext_getElem?
  intro j
  rw [List.getElem?_map, List.getElem?_set, List.getElem?_map]
  by_cases hj : j < n
  · rw [List.getElem?_range hj]
    by_cases hf : fk = j
    · subst hf
      simp [hj, h1]
    · simp [hf, h2 j (Ne.symm hf)]
  · have : (List.range n)[j]? = none := by simp; omega
    rw [this]
    by_cases hf : fk = j
    · subst hf
      simp [hj]
    · simp [hf]
theorem zent_put {g : zGG} {φ : zPhi} {d : zMem} {a ci fk : Nat} {v : Int} (hL : LAY a = (0, ci)) (ht : isRf (tyc ci fk) = false) : zent g φ (mu d a (fk : Int) v) a = .inr (ci, ((List.range (ncl ci)).map (fun i => zfv g φ d a ci i)).set fk (.int (Int32.ofInt v))) := by
  rw [zent_obj hL]
  congr 2
  refine map_set_ext ?_ (fun i hi => ?_)
  · simp [zfv, ht, mu, mrow, rup]
  · have : ((i : Nat) : Int) ≠ (fk : Int) := by omega
    simp [zfv, mu, mrow, rup, this]
theorem z_putI (ci fk : Nat) {idx a : Nat} {v : Int} (hL : LAY a = (0, ci)) (hci : ci < 10) (hfk : fk < ncl ci) (ht : isRf (tyc ci fk) = false) (ha : a < φ.1) (hf : (TXc ci fk).2.2.2 = false) (hw : Cond.fieldLink (kown k) idx (RXc ci) (TXc ci fk).2.1 (TXc ci fk).2.2.1 ∈ GW) (hd : decode (kcode k) pc = .ok (.putfield idx, 3)) (hv : okB (tyc ci fk) v) (hh : Fr g e k φ (pc + 3) ls st (mu d a (fk : Int) v)) : Fr g e k φ pc ls (zI v :: zR a :: st) d := by
  intro p ee s m args below meth c hC h0 H locs A hH hS hl
  have ha' := zwl_get (g := g) (d := d) ha
  rw [zent_obj hL] at ha'
  refine va_put hC.1 hC.2.1 hC.2.2.2.2.2.1 (ws_GW ci hci) (tyc ci) (tyc_ok ci hci) (nmc_ok ci hci) hC.2.2.2.2.1 hC.2.2.2.2.2.2.1.1 (zwl_P hH) zwl_D hS a ha' (cls_at hci) fk hfk (hC.2.2.2.2.2.1 _ hw) (fun x hx => by rw [← TXc_dec ci hci fk hfk]; exact hx) hf (tyc_ok ci hci fk hfk) (okB_nar hv).1 (okB_nar hv).2 (by rw [List.length_map, List.length_range]; exact hfk) hd (fun H1 locs1 hP hD hS1 => ?_)
  exact hh p ee s m args below meth c hC h0 H1 locs1 A (zH_set ha rfl hP (zent_put hL ht) (fun q hq => zent_congr (mrow_ne hq) (fun _ => rfl))) hS1 hl
theorem z_putIN (ci fk : Nat) {idx a : Nat} {host : String} {v : Int} (hL : LAY a = (0, ci)) (hci : ci < 10) (hfk : fk < ncl ci) (ht : isRf (tyc ci fk) = false) (ha : a < φ.1) (hf : (TXc ci fk).2.2.2 = false) (hw : Cond.fieldLinkNest (kown k) idx (RXc ci) (TXc ci fk).2.1 (TXc ci fk).2.2.1 host ∈ NW) (hd : decode (kcode k) pc = .ok (.putfield idx, 3)) (hv : okB (tyc ci fk) v) (hh : Fr g e k φ (pc + 3) ls st (mu d a (fk : Int) v)) : Fr g e k φ pc ls (zI v :: zR a :: st) d := by
  intro p ee s m args below meth c hC h0 H locs A hH hS hl
  have ha' := zwl_get (g := g) (d := d) ha
  rw [zent_obj hL] at ha'
  refine va_putN hC.1 hC.2.1 hC.2.2.2.2.2.1 (ws_GW ci hci) (tyc ci) (tyc_ok ci hci) (nmc_ok ci hci) hC.2.2.2.2.1 hC.2.2.2.2.2.2.1.1 (zwl_P hH) zwl_D hS a ha' (cls_at hci) fk hfk (va_Nw.use rfl (hC.2.2.2.2.2.2.1.2.1 _ hw)) (fun x hx => by rw [← TXc_dec ci hci fk hfk]; exact hx) hf (tyc_ok ci hci fk hfk) (okB_nar hv).1 (okB_nar hv).2 (by rw [List.length_map, List.length_range]; exact hfk) hd (fun H1 locs1 hP hD hS1 => ?_)
  exact hh p ee s m args below meth c hC h0 H1 locs1 A (zH_set ha rfl hP (zent_put hL ht) (fun q hq => zent_congr (mrow_ne hq) (fun _ => rfl))) hS1 hl
theorem zent_wire {g : zGG} {φ : zPhi} {d : zMem} {a ci fk b : Nat} (hL : LAY a = (0, ci)) (ht : isRf (tyc ci fk) = true) (hr : RT a fk = b) : zent g (zw φ a fk) d a = .inr (ci, ((List.range (ncl ci)).map (fun i => zfv g φ d a ci i)).set fk (.ref (gB g + b))) := by
  rw [zent_obj hL]
  congr 2
  refine map_set_ext ?_ (fun i hi => ?_)
  · simp [zfv, ht, zw, hr]
  · simp [zfv, zw, hi]
theorem fits_ref {ty : FieldType} (h : isRf ty = true) (a : Nat) : narrow ty (.ref a) = .ref a ∧ fits ty (.ref a) = true := by
  cases ty <;> first | exact ⟨rfl, rfl⟩ | (simp [isRf] at h)
theorem z_putR (ci fk : Nat) {idx a b : Nat} (hL : LAY a = (0, ci)) (hci : ci < 10) (hfk : fk < ncl ci) (ht : isRf (tyc ci fk) = true) (ha : a < φ.1) (hf : (TXc ci fk).2.2.2 = true) (hin : (ky k).name = "<init>") (hdc : (TXc ci fk).1 = kown k) (hr : RT a fk = b) (hw : Cond.fieldLink (kown k) idx (RXc ci) (TXc ci fk).2.1 (TXc ci fk).2.2.1 ∈ GW) (hd : decode (kcode k) pc = .ok (.putfield idx, 3)) (hh : Fr g e k (zw φ a fk) (pc + 3) ls st d) : Fr g e k φ pc ls (zR b :: zR a :: st) d := by
  intro p ee s m args below meth c hC h0 H locs A hH hS hl
  have ha' := zwl_get (g := g) (d := d) ha
  rw [zent_obj hL] at ha'
  refine va_putF hC.1 hC.2.1 hC.2.2.2.2.2.1 (ws_GW ci hci) (tyc ci) (tyc_ok ci hci) (nmc_ok ci hci) hC.2.2.2.2.1 hC.2.2.2.2.2.2.1.1 (zwl_P hH) zwl_D hS a ha' (cls_at hci) fk hfk (hC.2.2.2.2.2.1 _ hw) (fun x hx => by rw [← TXc_dec ci hci fk hfk]; exact hx) hf (hC.2.2.2.2.2.2.2.2.2.trans hin) hdc (tyc_ok ci hci fk hfk) (fits_ref ht _).1 (fits_ref ht _).2 (by rw [List.length_map, List.length_range]; exact hfk) hd (fun H1 locs1 hP hD hS1 => ?_)
  exact hh p ee s m args below meth c hC h0 H1 locs1 A (zH_set ha rfl hP (zent_wire hL ht hr) (fun q hq => zent_congr rfl (fun i => by simp [zw, hq]))) hS1 hl
end
end
section
-- ROWS: ends, entry, calls, new cells, copies, statics, Math, over the pure machine
section
variable {g : zGG} {e : zEE} {k : zMk} {φ : zPhi} {pc : Nat} {ls : List (Option zPV)} {st : List zPV} {d : zMem}
theorem zret_i {Q : Int → zMem → Prop} {φ0 : zPhi} {v : Int} (hr : kret k = some .int) (hd : decode (kcode k) pc = .ok (.ireturn, 1)) (hQ : Q v d) : Fr g (eM g k φ0 φ Q) k φ pc ls [zI v] d := by
  intro p ee s m args below meth c hC h0 H locs A hH hS hl
  refine W.iret hC.1 hC.2.1 (hC.2.2.1.trans hr) (fun t ht hW => ?_) hS.2.2 hd hC.2.2.2.2.2.2.2.1
  unfold zQc
  rw [hr]
  exact ⟨⟨Int32.ofInt v, d, rfl, ⟨v, rfl, hQ⟩, (show zH g φ d t.heap by rw [ht]; exact hH)⟩, hS.F ht⟩
theorem zret_z {Q : Int → zMem → Prop} {φ0 : zPhi} {v : Int} (hr : kret k = some .boolean) (hd : decode (kcode k) pc = .ok (.ireturn, 1)) (hb : v = 0 ∨ v = 1) (hQ : Q v d) : Fr g (eM g k φ0 φ Q) k φ pc ls [zI v] d := by
  intro p ee s m args below meth c hC h0 H locs A hH hS hl
  refine W.zret hC.1 hC.2.1 (hC.2.2.1.trans hr) (okB_nar (Or.inr ⟨rfl, hb⟩)).1 (fun t ht hW => ?_) hS.2.2 hd hC.2.2.2.2.2.2.2.1
  unfold zQc
  rw [hr]
  exact ⟨⟨Int32.ofInt v, d, rfl, ⟨v, rfl, hQ⟩, (show zH g φ d t.heap by rw [ht]; exact hH)⟩, hS.F ht⟩
theorem zret_v {Q : Int → zMem → Prop} {φ0 : zPhi} (hr : kret k = none) (hd : decode (kcode k) pc = .ok (.return_, 1)) (hQ : Q 0 d) : Fr g (eM g k φ0 φ Q) k φ pc ls [] d := by
  intro p ee s m args below meth c hC h0 H locs A hH hS hl
  refine W.vret hC.1 hC.2.1 (hC.2.2.1.trans hr) (fun t ht hW => ?_) hS.2.2 hd hC.2.2.2.2.2.2.2.1
  unfold zQc
  rw [hr]
  exact ⟨⟨d, rfl, hQ, (show zH g φ d t.heap by rw [ht]; exact hH)⟩, hS.F ht⟩
-- entry
def zent0 : List zPV → List (Option zPV)
  | [] => []
  | v :: vs => if v.1 < 6 then some v :: zent0 vs else some v :: none :: zent0 vs
def zin (n : Nat) (args : List zPV) : List (Option zPV) := zent0 args ++ List.replicate (n - (zent0 args).length) none
theorem zval_catR (g : zGG) (v : zPV) : (zval g v).category = if v.1 < 6 then 1 else 2 := by
  by_cases h : v.1 < 6
  · rw [if_pos h]; exact zval_cat1 g v h
  · rw [if_neg h]
    obtain ⟨t, x⟩ := v
    have ht : ¬ t < 6 := h
    obtain ⟨t', rfl⟩ : ∃ t', t = t' + 6 := ⟨t - 6, by omega⟩
    rfl
theorem lg_sl_len (g : zGG) : ∀ args : List zPV, (lg_sl (args.map (zval g))).length = (zent0 args).length
  | [] => rfl
  | v :: vs => by
    have ih := lg_sl_len g vs
    unfold lg_sl at ih ⊢
    rw [List.map_cons, List.flatMap_cons, List.length_append, ih, zval_catR]
    by_cases h : v.1 < 6
    · simp [zent0, h]; omega
    · simp [zent0, h]; omega
theorem zent0_args (g : zGG) : ∀ (args : List zPV) (b i : Nat) (v : zPV), (zent0 args)[i]? = some (some v) → (b + i, zval g v) ∈ lv_args b (args.map (zval g))
  | [], b, i, v, h => by simp [zent0] at h
  | w :: vs, b, i, v, h => by
    rw [List.map_cons, lv_args, zval_catR]
    by_cases hw : w.1 < 6
    · rw [zent0, if_pos hw] at h
      rw [if_pos hw]
      cases i with
      | zero =>
        rw [List.getElem?_cons_zero] at h
        cases h
        exact List.mem_cons_self
      | succ i =>
        rw [List.getElem?_cons_succ] at h
        have := zent0_args g vs (b + 1) i v h
        rw [show b + (i + 1) = b + 1 + i by omega]
        exact List.mem_cons_of_mem _ this
    · rw [zent0, if_neg hw] at h
      rw [if_neg hw, if_pos rfl]
      match i, h with
      | 0, h =>
        rw [List.getElem?_cons_zero] at h
        cases h
        exact List.mem_cons_self
      | 1, h => simp at h
      | i + 2, h =>
        rw [List.getElem?_cons_succ, List.getElem?_cons_succ] at h
        have := zent0_args g vs (b + 2) i v h
        rw [show b + (i + 2) = b + 2 + i by omega]
        exact List.mem_cons_of_mem _ this
theorem zin_ok {n : Nat} {args : List zPV} (h : (zent0 args).length ≤ n) : zLs g n (zin n args) ((lg_sl (args.map (zval g)) ++ List.replicate (n - (lg_sl (args.map (zval g))).length) Slot.unset).toArray) := by
  have hl := lv_entry (args.map (zval g)) (n := n) (by rw [lg_sl_len]; exact h)
  refine ⟨hl.1, hl.2.1, fun i v hi => ?_⟩
  unfold zin at hi
  rcases Nat.lt_or_ge i (zent0 args).length with q | q
  · rw [List.getElem?_append_left q] at hi
    have := hl.2.2 _ (zent0_args g args 0 i v hi)
    rwa [Nat.zero_add] at this
  · rw [List.getElem?_append_right q, List.getElem?_replicate] at hi
    split at hi <;> simp at hi
theorem Ev_of {args : List zPV} {φ' : zPhi} {Q : Int → zMem → Prop} (hp : plainName (ky k).cls = true) (hn : (zent0 args).length ≤ kn k) (h : Fr g (eM g k φ φ' Q) k φ 0 (zin (kn k) args) [] d) : Ev g k φ φ' args d Q := by
  refine Met.ofW (cc := kcode k) (maxL := kn k) (ret := kret k) hp rfl ?_
  intro p e s m as below meth c s₁ B hml hv
  obtain ⟨rfl, hK, hH, hsz, hle⟩ := hv
  have hts := atoms_spec (ws := kws k) B.pre
  have hC : zCx g (eM g k φ φ' Q) k p s m (args.map (zval g)).toArray meth c := ⟨B.exec, B.bytes, B.returns, hml, findClass_of_methodNamed B.named, fun w hw => hts w (List.mem_cons_of_mem _ hw), hK, B.notSynchronized, hsz, (name_of_methodNamed B.named B.method).1⟩
  have := h p e s m _ below meth c hC (Nat.le_refl _) s.heap [] _ hH va_S.rf (zin_ok hn)
  rw [lg_entry_eq]
  rw [show (eM g k φ φ' Q).2.1 = φ from rfl, Nat.sub_self, Nat.sub_self] at this
  exact this
theorem Ev_mono {args : List zPV} {φ' : zPhi} {Q Q' : Int → zMem → Prop} (h : Ev g k φ φ' args d Q) (hq : ∀ v d', Q v d' → Q' v d') : Ev g k φ φ' args d Q' := by
  intro p ee ha hc hk s m as below hf happ hP hK
  obtain ⟨n, o, h1, h2, h3, h4, h5⟩ := h p ee ha hc hk s m as below hf happ hP hK
  refine ⟨n, o, h1, h2, h3, ?_, h5⟩
  unfold zQc at h4 ⊢
  cases hr : kret k with
  | none =>
    rw [hr] at h4
    obtain ⟨⟨u, a1, a2, a3⟩, a4⟩ := h4
    exact ⟨⟨u, a1, hq _ _ a2, a3⟩, a4⟩
  | some ty =>
    rw [hr] at h4
    obtain ⟨⟨r, u, a1, ⟨v, a2, a3⟩, a4⟩, a5⟩ := h4
    exact ⟨⟨r, u, a1, ⟨v, a2, hq _ _ a3⟩, a4⟩, a5⟩
-- calls
def zcs (st : List zPV) : Nat := (st.map (fun v => if v.1 < 6 then 1 else 2)).sum
theorem zcs_of (g : zGG) (st : List zPV) : ((st.map (zval g)).map fun v => v.category).sum = zcs st := by
  unfold zcs
  rw [List.map_map]
  congr 1
  apply List.map_congr_left
  intro v _
  exact zval_catR g v
def zok (k' : zMk) (n : Nat) : Prop := Cond.initialized (ky k').cls ∈ GW ∧ Cond.code (ky k') (kcode k') (kn k') (kret k') ∈ GW ∧ ((ky k').cls ≠ "java/lang/invoke/MethodHandle" ∧ (ky k').cls ≠ "java/lang/invoke/VarHandle") ∧ (parseMethodDescriptor (ky k').desc).map (fun d => d.parameters.length) = some n
def zokV (k' : zMk) : Prop := Cond.instanceMethod (ky k') ∈ GW ∧ Cond.selects (ky k').cls (ky k') (ky k') ∈ GW
theorem kws_GW {k' : zMk} {n : Nat} (h : zok k' n) : ∀ w ∈ kws k', w ∈ GW := fun w hw => (List.mem_cons.mp hw).elim (fun q => q ▸ h.2.1) (fun q => q)
def zroom (e : zEE) (k' : zMk) (φ' : zPhi) : Prop := (kfr k' + 1 ≤ e.1.frames ∧ 8 + (kn k' + 11) + klo k' ≤ e.1.locals) ∧ (φ'.1 - e.2.1.1 ≤ e.1.cells ∧ zsl φ'.1 - zsl e.2.1.1 ≤ e.1.slots)
theorem zroom_fit {e : zEE} {k' : zMk} {φ φ' : zPhi} (h : zroom e k' φ') (h0 : e.2.1.1 ≤ φ.1) (h1 : φ.1 ≤ φ'.1) : φ.1 - e.2.1.1 + (φ'.1 - φ.1) ≤ e.1.cells ∧ zsl φ.1 - zsl e.2.1.1 + (zsl φ'.1 - zsl φ.1) ≤ e.1.slots := by
  obtain ⟨-, h2, h3⟩ := h
  have h4 := zsl_mono h0
  have h5 := zsl_mono h1
  omega
theorem zend_i {k' : zMk} {φ' : zPhi} {As : Array Value} {Q : Int → zMem → Prop} {ty : FieldType} {p : Program} {ee : Env} {s : State} {m : MethodId} {args : Array Value} {below : List Frame} {meth : Method} {c : Code} {H : Heap} {locs : List Loc} {A : Array Slot} {st0 : List Value} {rest : List zPV} {Z : State → Prop}
    (hC : zCx g e k p s m args meth c) (h0 : e.2.1.1 ≤ φ.1) (h1 : φ.1 ≤ φ'.1) (hS : va_S (gA g) s.heap H locs) (hl : zLs g (kn k) ls A) (hr : kret k' = some ty)
    (hrun : va_Run p (gL g) ee e.1 s m args below meth c H locs (φ.1 - e.2.1.1) (zsl φ.1 - zsl e.2.1.1) (φ'.1 - φ.1) (zsl φ'.1 - zsl φ.1) (F0 m pc A st0) (rest.map (zval g)) (zQc g k' φ' Q As) (gA g))
    (hQ : ∀ v d', Q v d' → Fr g e k φ' (pc + 3) ls (zI v :: rest) d') : W p (gL g) ee e.1 s m args below meth c H locs (φ.1 - e.2.1.1) (zsl φ.1 - zsl e.2.1.1) (e.2.2 args s below) (F0 m pc A st0) := by
  unfold zQc at hrun
  rw [hr] at hrun
  refine va_calli hrun hS (fun q _ h => h) (fun q h => h) (fun r d' t H1 locs1 ht hvm hp hb hz hk1 hS1 => ?_)
  obtain ⟨v, rfl, hv⟩ := hp
  have := hQ v d' hv p ee s m args below meth c hC (Nat.le_trans h0 h1) H1 locs1 A (by rw [← ht]; exact hb) hS1 hl
  have h4 := zsl_mono h0
  have h5 := zsl_mono h1
  rw [show φ.1 - e.2.1.1 + (φ'.1 - φ.1) = φ'.1 - e.2.1.1 by omega, show zsl φ.1 - zsl e.2.1.1 + (zsl φ'.1 - zsl φ.1) = zsl φ'.1 - zsl e.2.1.1 by omega]
  exact this
theorem zend_v {k' : zMk} {φ' : zPhi} {As : Array Value} {Q : Int → zMem → Prop} {p : Program} {ee : Env} {s : State} {m : MethodId} {args : Array Value} {below : List Frame} {meth : Method} {c : Code} {H : Heap} {locs : List Loc} {A : Array Slot} {st0 : List Value} {rest : List zPV} {Z : State → Prop}
    (hC : zCx g e k p s m args meth c) (h0 : e.2.1.1 ≤ φ.1) (h1 : φ.1 ≤ φ'.1) (hS : va_S (gA g) s.heap H locs) (hl : zLs g (kn k) ls A) (hr : kret k' = none)
    (hrun : va_Run p (gL g) ee e.1 s m args below meth c H locs (φ.1 - e.2.1.1) (zsl φ.1 - zsl e.2.1.1) (φ'.1 - φ.1) (zsl φ'.1 - zsl φ.1) (F0 m pc A st0) (rest.map (zval g)) (zQc g k' φ' Q As) (gA g))
    (hQ : ∀ v d', Q v d' → Fr g e k φ' (pc + 3) ls rest d') : W p (gL g) ee e.1 s m args below meth c H locs (φ.1 - e.2.1.1) (zsl φ.1 - zsl e.2.1.1) (e.2.2 args s below) (F0 m pc A st0) := by
  unfold zQc at hrun
  rw [hr] at hrun
  refine va_callv hrun hS (fun q _ h => h) (fun q h => h) (fun d' t H1 locs1 ht hvm hp hb hz hk1 hS1 => ?_)
  have := hQ 0 d' hp p ee s m args below meth c hC (Nat.le_trans h0 h1) H1 locs1 A (by rw [← ht]; exact hb) hS1 hl
  have h4 := zsl_mono h0
  have h5 := zsl_mono h1
  rw [show φ.1 - e.2.1.1 + (φ'.1 - φ.1) = φ'.1 - e.2.1.1 by omega, show zsl φ.1 - zsl e.2.1.1 + (zsl φ'.1 - zsl φ.1) = zsl φ'.1 - zsl e.2.1.1 by omega]
  exact this
theorem zpre {φ' : zPhi} {As : List zPV} {p : Program} {s : State} {m : MethodId} {args : Array Value} {meth : Method} {c : Code} {H : Heap} {locs : List Loc} (hC : zCx g e k p s m args meth c) (hH : zH g φ d H) (hS : va_S (gA g) s.heap H locs) (hz : H.size = gB g + φ.1) (h1 : φ.1 ≤ φ'.1) (U : State) (hU : U.heap = H) (hW : s.WarmedH U.vm) : zPc g φ φ' As d (As.map (zval g)).toArray U :=
  ⟨rfl, hC.2.2.2.2.2.2.1.go hS hU hW, by rw [hU]; exact hH, by rw [hU]; exact hz, h1⟩
theorem z_callV {k' : zMk} {φ' : zPhi} {a ci n idx : Nat} {As : List zPV} {Q : Int → zMem → Prop} {stk : List zPV}
    (hd : decode (kcode k) pc = .ok (.invokevirtual idx, 3)) (hst : As.reverse ++ zR a :: st = stk) (hL : LAY a = (0, ci)) (hci : ci < 10) (hcl : (ky k').cls = RXc ci) (ha : a < φ.1)
    (w1 : Cond.methodLink (kown k) idx (ky k') ∈ GW) (hok : zok k' n) (hokV : zokV k') (hn : As.length = n) (hroom : zroom e k' φ') (hW : zcs st ≤ 8) (h1 : φ.1 ≤ φ'.1)
    (hend : ∀ {p : Program} {ee : Env} {s : State} {m : MethodId} {args : Array Value} {below : List Frame} {meth : Method} {c : Code} {H : Heap} {locs : List Loc} {A : Array Slot} {st0 : List Value}, zCx g e k p s m args meth c → e.2.1.1 ≤ φ.1 → va_S (gA g) s.heap H locs → zLs g (kn k) ls A → va_Run p (gL g) ee e.1 s m args below meth c H locs (φ.1 - e.2.1.1) (zsl φ.1 - zsl e.2.1.1) (φ'.1 - φ.1) (zsl φ'.1 - zsl φ.1) (F0 m pc A st0) (st.map (zval g)) (zQc g k' φ' Q (((zR a :: As)).map (zval g)).toArray) (gA g) → W p (gL g) ee e.1 s m args below meth c H locs (φ.1 - e.2.1.1) (zsl φ.1 - zsl e.2.1.1) (e.2.2 args s below) (F0 m pc A st0))
    (hEv : Ev g k' φ φ' (zR a :: As) d Q) : Fr g e k φ pc ls stk d := by
  subst hst
  intro p ee s m args below meth c hC h0 H locs A hH hS hl T hT X
  have hz := hH.size hC h0 hS hT X
  have ha' := zwl_get (g := g) (d := d) ha
  rw [zent_obj hL] at ha'
  have hcw : CallW e.1 s args (kown k) (RXc ci) idx (ky k') (kcode k') (kn k') (kret k') (kws k') (krm k' φ φ') (φ'.1 - φ.1) (zsl φ'.1 - zsl φ.1) n := by
    refine cwV n hC.2.2.2.2.2.1 (goodIn_GW ?_) rfl rfl rfl ⟨hcl, hok.2.2.1.1, hok.2.2.1.2, hok.2.2.2⟩ hroom.1
    intro w hw
    rcases List.mem_append.mp hw with q | q
    · rcases List.mem_cons.mp q with rfl | q
      · exact w1
      rcases List.mem_cons.mp q with rfl | q
      · exact hokV.1
      rcases List.mem_cons.mp q with rfl | q
      · rw [← hcl]; exact hokV.2
      rcases List.mem_cons.mp q with rfl | q
      · rw [← hcl]; exact hok.1
      · cases q
    · exact kws_GW hok w q
  refine hend hC h0 hS hl (va_runV (As := As.map (zval g)) ⟨hC.1, hC.2.1, hC.2.2.2.1, hC.2.2.2.2.1, hC.2.2.2.2.2.1⟩ hEv hcw ⟨zPc.blind, va_recv hC.2.2.2.2.2.2.1.1 (zwl_P hH) (cls_at hci) ha', fun U hU hW => ?_⟩ rfl (by rw [List.length_map]; exact hn) hl.1 ?_ (lv_room (by rw [zcs_of]; exact hW)) hd (zroom_fit hroom h0 h1)) T hT X
  · exact zpre (As := zR a :: As) hC hH hS hz h1 U hU hW
  · show List.map (zval g) (As.reverse ++ zR a :: st) = _
    rw [List.map_append, List.map_reverse]
    rfl
theorem z_callVi {k' : zMk} {φ' : zPhi} {a ci n idx : Nat} {As : List zPV} {stk : List zPV} {ty : FieldType}
    (hd : decode (kcode k) pc = .ok (.invokevirtual idx, 3)) (hst : As.reverse ++ zR a :: st = stk) (hL : LAY a = (0, ci)) (hci : ci < 10) (hcl : (ky k').cls = RXc ci) (ha : a < φ.1)
    (w1 : Cond.methodLink (kown k) idx (ky k') ∈ GW) (hok : zok k' n) (hokV : zokV k') (hn : As.length = n) (hroom : zroom e k' φ') (hW : zcs st ≤ 8) (h1 : φ.1 ≤ φ'.1) (hr : kret k' = some ty)
    (hEv : Ev g k' φ φ' (zR a :: As) d (fun v d' => Fr g e k φ' (pc + 3) ls (zI v :: st) d')) : Fr g e k φ pc ls stk d :=
  z_callV hd hst hL hci hcl ha w1 hok hokV hn hroom hW h1 (fun hC h0 hS hl hrun => zend_i (Z := fun _ => True) hC h0 h1 hS hl hr hrun (fun _ _ h => h)) hEv
theorem z_callVv {k' : zMk} {φ' : zPhi} {a ci n idx : Nat} {As : List zPV} {stk : List zPV}
    (hd : decode (kcode k) pc = .ok (.invokevirtual idx, 3)) (hst : As.reverse ++ zR a :: st = stk) (hL : LAY a = (0, ci)) (hci : ci < 10) (hcl : (ky k').cls = RXc ci) (ha : a < φ.1)
    (w1 : Cond.methodLink (kown k) idx (ky k') ∈ GW) (hok : zok k' n) (hokV : zokV k') (hn : As.length = n) (hroom : zroom e k' φ') (hW : zcs st ≤ 8) (h1 : φ.1 ≤ φ'.1) (hr : kret k' = none)
    (hEv : Ev g k' φ φ' (zR a :: As) d (fun _ d' => Fr g e k φ' (pc + 3) ls st d')) : Fr g e k φ pc ls stk d :=
  z_callV hd hst hL hci hcl ha w1 hok hokV hn hroom hW h1 (fun hC h0 hS hl hrun => zend_v (Z := fun _ => True) hC h0 h1 hS hl hr hrun (fun _ _ h => h)) hEv
end
end
section
-- ROWS: other calls, new cells, copies, statics, Math, the script
section
variable {g : zGG} {e : zEE} {k : zMk} {φ : zPhi} {pc : Nat} {ls : List (Option zPV)} {st : List zPV} {d : zMem}
abbrev zEnd (g : zGG) (e : zEE) (k k' : zMk) (φ φ' : zPhi) (pc : Nat) (ls : List (Option zPV)) (st : List zPV) (As : List zPV) (Q : Int → zMem → Prop) : Prop :=
  ∀ {p : Program} {ee : Env} {s : State} {m : MethodId} {args : Array Value} {below : List Frame} {meth : Method} {c : Code} {H : Heap} {locs : List Loc} {A : Array Slot} {st0 : List Value}, zCx g e k p s m args meth c → e.2.1.1 ≤ φ.1 → va_S (gA g) s.heap H locs → zLs g (kn k) ls A → va_Run p (gL g) ee e.1 s m args below meth c H locs (φ.1 - e.2.1.1) (zsl φ.1 - zsl e.2.1.1) (φ'.1 - φ.1) (zsl φ'.1 - zsl φ.1) (F0 m pc A st0) (st.map (zval g)) (zQc g k' φ' Q (As.map (zval g)).toArray) (gA g) → W p (gL g) ee e.1 s m args below meth c H locs (φ.1 - e.2.1.1) (zsl φ.1 - zsl e.2.1.1) (e.2.2 args s below) (F0 m pc A st0)
theorem zcallB {k' : zMk} {φ' : zPhi} {n idx : Nat} {p : Program} {s : State} {m : MethodId} {args : Array Value} {meth : Method} {c : Code} (hC : zCx g e k p s m args meth c) (w1 : Cond.methodLink (kown k) idx (ky k') ∈ GW) (hok : zok k' n) (hroom : zroom e k' φ') : CallB e.1 s args (kown k) idx (ky k') (kcode k') (kn k') (kret k') (kws k') (krm k' φ φ') (φ'.1 - φ.1) (zsl φ'.1 - zsl φ.1) n :=
  callB_of n hC.2.2.2.2.2.1 (goodIn_GW (kws_GW hok)) rfl rfl rfl (hC.2.2.2.2.2.1 _ hok.1) (hC.2.2.2.2.2.1 _ w1) ⟨hok.2.2.1.1, hok.2.2.1.2, hok.2.2.2⟩ hroom.1
theorem zcallN {k' : zMk} {φ' : zPhi} {n idx : Nat} {host : String} {p : Program} {s : State} {m : MethodId} {args : Array Value} {meth : Method} {c : Code} (hC : zCx g e k p s m args meth c) (w1 : Cond.methodLinkNest (kown k) idx (ky k') host ∈ NW) (hok : zok k' n) (hroom : zroom e k' φ') : va_CN e.1 s args (kown k) idx (ky k') host (kcode k') (kn k') (kret k') (kws k') (krm k' φ φ') (φ'.1 - φ.1) (zsl φ'.1 - zsl φ.1) n :=
  va_cnB n hC.2.2.2.2.2.1 (goodIn_GW (kws_GW hok)) rfl rfl rfl (hC.2.2.2.2.2.2.1.2.1 _ w1) (hC.2.2.2.2.2.1 _ hok.1) ⟨hok.2.2.1.1, hok.2.2.1.2, hok.2.2.2⟩ hroom.1
theorem z_callS {k' : zMk} {φ' : zPhi} {n idx : Nat} {As : List zPV} {Q : Int → zMem → Prop} {stk : List zPV}
    (hd : decode (kcode k) pc = .ok (.invokestatic idx, 3)) (hst : As.reverse ++ st = stk)
    (w1 : Cond.methodLink (kown k) idx (ky k') ∈ GW) (hok : zok k' n) (hs : Cond.static (ky k') ∈ GW) (hn : As.length = n) (hroom : zroom e k' φ') (hW : zcs st ≤ 8) (h1 : φ.1 ≤ φ'.1)
    (hend : zEnd g e k k' φ φ' pc ls st As Q) (hEv : Ev g k' φ φ' As d Q) : Fr g e k φ pc ls stk d := by
  subst hst
  intro p ee s m args below meth c hC h0 H locs A hH hS hl T hT X
  have hz := hH.size hC h0 hS hT X
  refine hend hC h0 hS hl (va_runS (As := As.map (zval g)) ⟨hC.1, hC.2.1, hC.2.2.2.1, hC.2.2.2.2.1, hC.2.2.2.2.2.1⟩ hEv ⟨zcallB hC w1 hok hroom, hC.2.2.2.2.2.1 _ hs⟩ ⟨zPc.blind, fun U hU hW => ?_⟩ rfl (by rw [List.length_map]; exact hn) hl.1 ?_ (lv_room (by rw [zcs_of]; exact hW)) hd (zroom_fit hroom h0 h1)) T hT X
  · exact zpre hC hH hS hz h1 U hU hW
  · show List.map (zval g) (As.reverse ++ st) = _
    rw [List.map_append, List.map_reverse]
theorem z_callSN {k' : zMk} {φ' : zPhi} {n idx : Nat} {host : String} {As : List zPV} {Q : Int → zMem → Prop} {stk : List zPV}
    (hd : decode (kcode k) pc = .ok (.invokestatic idx, 3)) (hst : As.reverse ++ st = stk)
    (w1 : Cond.methodLinkNest (kown k) idx (ky k') host ∈ NW) (hok : zok k' n) (hs : Cond.static (ky k') ∈ GW) (hn : As.length = n) (hroom : zroom e k' φ') (hW : zcs st ≤ 8) (h1 : φ.1 ≤ φ'.1)
    (hend : zEnd g e k k' φ φ' pc ls st As Q) (hEv : Ev g k' φ φ' As d Q) : Fr g e k φ pc ls stk d := by
  subst hst
  intro p ee s m args below meth c hC h0 H locs A hH hS hl T hT X
  have hz := hH.size hC h0 hS hT X
  refine hend hC h0 hS hl (va_runSN (As := As.map (zval g)) ⟨hC.1, hC.2.1, hC.2.2.2.1, hC.2.2.2.2.1, hC.2.2.2.2.2.1⟩ hEv ⟨zcallN hC w1 hok hroom, hC.2.2.2.2.2.1 _ hs, trivial⟩ ⟨zPc.blind, fun U hU hW => ?_⟩ rfl (by rw [List.length_map]; exact hn) hl.1 ?_ (lv_room (by rw [zcs_of]; exact hW)) hd (zroom_fit hroom h0 h1)) T hT X
  · exact zpre hC hH hS hz h1 U hU hW
  · show List.map (zval g) (As.reverse ++ st) = _
    rw [List.map_append, List.map_reverse]
theorem z_callI {k' : zMk} {φ' : zPhi} {a n idx : Nat} {As : List zPV} {Q : Int → zMem → Prop} {stk : List zPV}
    (hd : decode (kcode k) pc = .ok (.invokespecial idx, 3)) (hst : As.reverse ++ zR a :: st = stk) (hr : kret k' = none) (hnm : (ky k').name = "<init>")
    (w1 : Cond.methodLink (kown k) idx (ky k') ∈ GW) (hok : zok k' n) (hs : Cond.instanceMethod (ky k') ∈ GW) (hn : As.length = n) (hroom : zroom e k' φ') (hW : zcs st ≤ 8) (h1 : φ.1 ≤ φ'.1)
    (hEv : Ev g k' φ φ' (zR a :: As) d (fun _ d' => Fr g e k φ' (pc + 3) ls st d')) : Fr g e k φ pc ls stk d := by
  subst hst
  intro p ee s m args below meth c hC h0 H locs A hH hS hl T hT X
  have hz := hH.size hC h0 hS hT X
  have hcb := zcallB (φ := φ) hC w1 hok hroom
  rw [hr] at hcb
  refine zend_v (k' := k') (Z := fun _ => True) hC h0 h1 hS hl hr (va_runI (b := gB g + a) (As := As.map (zval g)) ⟨hC.1, hC.2.1, hC.2.2.2.1, hC.2.2.2.2.1, hC.2.2.2.2.2.1⟩ hEv ⟨hcb, hnm, hC.2.2.2.2.2.1 _ hs⟩ ⟨zPc.blind, fun U hU hW => ?_⟩ rfl (by rw [List.length_map]; exact hn) hl.1 ?_ (lv_room (by rw [zcs_of]; exact hW)) hd (zroom_fit hroom h0 h1)) (fun _ _ h => h) T hT X
  · exact zpre (As := zR a :: As) hC hH hS hz h1 U hU hW
  · show List.map (zval g) (As.reverse ++ zR a :: st) = _
    rw [List.map_append, List.map_reverse]
    rfl
theorem z_callIN {k' : zMk} {φ' : zPhi} {a n idx : Nat} {host : String} {As : List zPV} {stk : List zPV}
    (hd : decode (kcode k) pc = .ok (.invokespecial idx, 3)) (hst : As.reverse ++ zR a :: st = stk) (hr : kret k' = none) (hnm : (ky k').name = "<init>")
    (w1 : Cond.methodLinkNest (kown k) idx (ky k') host ∈ NW) (hok : zok k' n) (hs : Cond.instanceMethod (ky k') ∈ GW) (hn : As.length = n) (hroom : zroom e k' φ') (hW : zcs st ≤ 8) (h1 : φ.1 ≤ φ'.1)
    (hEv : Ev g k' φ φ' (zR a :: As) d (fun _ d' => Fr g e k φ' (pc + 3) ls st d')) : Fr g e k φ pc ls stk d := by
  subst hst
  intro p ee s m args below meth c hC h0 H locs A hH hS hl T hT X
  have hz := hH.size hC h0 hS hT X
  have hcb := zcallN (φ := φ) hC w1 hok hroom
  rw [hr] at hcb
  refine zend_v (k' := k') (Z := fun _ => True) hC h0 h1 hS hl hr (va_runIN (b := gB g + a) (As := As.map (zval g)) ⟨hC.1, hC.2.1, hC.2.2.2.1, hC.2.2.2.2.1, hC.2.2.2.2.2.1⟩ hEv ⟨hcb, hnm, hC.2.2.2.2.2.1 _ hs⟩ ⟨zPc.blind, fun U hU hW => ?_⟩ rfl (by rw [List.length_map]; exact hn) hl.1 ?_ (lv_room (by rw [zcs_of]; exact hW)) hd (zroom_fit hroom h0 h1)) (fun _ _ h => h) T hT X
  · exact zpre (As := zR a :: As) hC hH hS hz h1 U hU hW
  · show List.map (zval g) (As.reverse ++ zR a :: st) = _
    rw [List.map_append, List.map_reverse]
    rfl
theorem zEnd_i {k' : zMk} {φ' : zPhi} {As : List zPV} {Q : Int → zMem → Prop} {ty : FieldType} (h1 : φ.1 ≤ φ'.1) (hr : kret k' = some ty) (h : ∀ v d', Q v d' → Fr g e k φ' (pc + 3) ls (zI v :: st) d') : zEnd g e k k' φ φ' pc ls st As Q :=
  fun hC h0 hS hl hrun => zend_i (Z := fun _ => True) hC h0 h1 hS hl hr hrun h
theorem zEnd_v {k' : zMk} {φ' : zPhi} {As : List zPV} {Q : Int → zMem → Prop} (h1 : φ.1 ≤ φ'.1) (hr : kret k' = none) (h : ∀ v d', Q v d' → Fr g e k φ' (pc + 3) ls st d') : zEnd g e k k' φ φ' pc ls st As Q :=
  fun hC h0 hS hl hrun => zend_v (Z := fun _ => True) hC h0 h1 hS hl hr hrun h
-- Object.<init>
theorem z_objInit {a idx : Nat} (hd : decode (kcode k) pc = .ok (.invokespecial idx, 3)) (w1 : Cond.methodLink (kown k) idx Lib.objectInit ∈ GW) (w2 : Cond.instanceMethod Lib.objectInit ∈ GW) (w3 : Cond.code Lib.objectInit ⟨#[0xb1]⟩ 1 none ∈ GW) (hroom : 1 ≤ e.1.frames ∧ zcs st + 12 ≤ e.1.locals) (hh : Fr g e k φ (pc + 3) ls st d) : Fr g e k φ pc ls (zR a :: st) d := by
  intro p ee s m args below meth c hC h0 H locs A hH hS hl
  have hk := hh p ee s m args below meth c hC h0 H locs A hH hS hl
  exact W.objInit hC.1 hC.2.1 hC.2.2.2.2.1 (hC.2.2.2.2.2.1 _ w1) (hC.2.2.2.2.2.1 _ w2) (hC.2.2.2.2.2.1 _ w3) rfl (hl.1.trans hC.2.2.2.1.symm) rfl hd hroom.1 (by rw [zcs_of]; show 2 * 0 + _ + 12 ≤ _; omega) hk
-- new cells
theorem zsz_at {n : Nat} : zsl (n + 1) = zsl n + zsz n := rfl
def znx (φ : zPhi) : zPhi := (φ.1 + 1, φ.2)
theorem zfv_new {g : zGG} {φ : zPhi} {d : zMem} {a ci i : Nat} (hw : ∀ i, φ.2 a i = false) : zfv g φ (mrow d a (fun _ => 0)) a ci i = defaultValue (tyc ci i) ∨ (isRf (tyc ci i) = false ∧ zfv g φ (mrow d a (fun _ => 0)) a ci i = .int 0) := by
  unfold zfv
  by_cases h : isRf (tyc ci i) = true
  · left
    rw [if_pos h, if_neg (by rw [hw]; exact Bool.false_ne_true)]
    revert h
    cases tyc ci i <;> intro h <;> first | rfl | (simp [isRf] at h)
  · right
    rw [if_neg h, mrow_eq]
    exact ⟨by simpa using h, rfl⟩
theorem tyc_int : ∀ ci, ci < 10 → ∀ fk, fk < ncl ci → isRf (tyc ci fk) = true ∨ tyc ci fk = .int ∨ tyc ci fk = .boolean := by decide +kernel
theorem z_new (ci : Nat) {idx : Nat} (hL : LAY φ.1 = (0, ci)) (hci : ci < 10) (hwi : ∀ i, φ.2 φ.1 i = false) (hd : decode (kcode k) pc = .ok (.new idx, 3)) (w1 : Cond.classLink (kown k) idx (RXc ci) ∈ GW) (w2 : Cond.instantiable (RXc ci) (ncl ci) ∈ GW) (w3 : Cond.initialized (RXc ci) ∈ GW)
    (hroom : φ.1 + 1 - e.2.1.1 ≤ e.1.cells ∧ zsl (φ.1 + 1) - zsl e.2.1.1 ≤ e.1.slots) (hh : Fr g e k (znx φ) (pc + 3) ls (zR φ.1 :: st) (mrow d φ.1 (fun _ => 0))) : Fr g e k φ pc ls st d := by
  intro p ee s m args below meth c hC h0 H locs A hH hS hl T hT X
  have hz := hH.size hC h0 hS hT X
  have hKn := hC.2.2.2.2.2.2.1.1.1 ci _ (cls_at hci)
  have hsz : zsz φ.1 = ncl ci := by unfold zsz; rw [hL]; rfl
  have hm := zsl_mono h0
  have e1 : φ.1 - e.2.1.1 + 1 = (znx φ).1 - e.2.1.1 := by show _ = φ.1 + 1 - _; omega
  have e2 : zsl φ.1 - zsl e.2.1.1 + ncl ci = zsl (znx φ).1 - zsl e.2.1.1 := by show _ = zsl φ.1 + zsz φ.1 - _; omega
  suffices hW : W p (gL g) ee e.1 s m args below meth c H locs (φ.1 - e.2.1.1) (zsl φ.1 - zsl e.2.1.1) (e.2.2 args s below) (F0 m pc A (st.map (zval g))) from hW T hT X
  refine W.newcK (g := F0 m pc A (st.map (zval g))) hC.1 hC.2.1 hC.2.2.2.2.1 (hC.2.2.2.2.2.1 _ w1) (hC.2.2.2.2.2.1 _ w2) (hC.2.2.2.2.2.1 _ w3) rfl hd (by rw [e1]; exact hroom.1) (by rw [e2]; exact hroom.2) hKn.2.1 hz fun H1 kC hkC f1 z1 o1 => ?_
  rw [e1, e2]
  have hsame : ∀ q, q < s.heap.size → ¬ gA g q → H1[q]? = s.heap[q]? := fun q h1 h2 => (o1 q (by have := hS.1; omega)).trans (hS.2.1 q h1 h2)
  refine hh p ee s m args below meth c hC (Nat.le_trans h0 (Nat.le_succ _)) H1 locs A ?_ ⟨by have := hS.1; omega, hsame, hS.2.2⟩ hl
  intro q hq
  rcases Nat.lt_or_ge q φ.1 with hlt | hge
  · rw [zent_congr (φ := φ) (φ' := znx φ) (d := d) (d' := mrow d φ.1 (fun _ => 0)) (k := q) (mrow_ne (Nat.ne_of_lt hlt)) (fun _ => rfl)]
    exact (hH q hlt).kept (o1 _ (by show gB g + q < gB g + φ.1; omega))
  · have hqe : q = φ.1 := by
      have h2 : q < φ.1 + 1 := hq
      omega
    subst hqe
    rw [zent_obj hL]
    refine ⟨_, cls_at hci, (u_born (tyc ci) hC.2.2.2.2.2.1 (ws_GW ci hci) hKn hkC f1 (tyc_ok ci hci)).to (fun j hj => ?_)⟩
    show _ = vp_V _ j
    unfold vp_V
    have hjl : ((List.range (ncl ci)).map (fun i => zfv g (znx φ) (mrow d φ.1 (fun _ => 0)) φ.1 ci i)).getD j .null = zfv g (znx φ) (mrow d φ.1 (fun _ => 0)) φ.1 ci j := by
      have hj' : j < ncl ci := hj
      rw [List.getD_eq_getElem?_getD, List.getElem?_map, List.getElem?_range hj']
      rfl
    rw [hjl]
    rcases zfv_new (g := g) (φ := znx φ) (d := d) (a := φ.1) (ci := ci) (i := j) hwi with h | ⟨h1, h2⟩
    · exact h.symm
    · rw [h2]
      rcases tyc_int ci hci j hj with h | h | h
      · rw [h1] at h; cases h
      · rw [h]; rfl
      · rw [h]; rfl
theorem z_newI {n : Nat} {at' : ArrayType} (hat : newarray.typeOf at' = .int) (hL : LAY φ.1 = (1, n)) (hwi : True) (hn : n < 2 ^ 26) (hd : decode (kcode k) pc = .ok (.newarray at', 2)) (w1 : Cond.arrayClass .int ∈ GW)
    (hroom : φ.1 + 1 - e.2.1.1 ≤ e.1.cells ∧ zsl (φ.1 + 1) - zsl e.2.1.1 ≤ e.1.slots) (hh : Fr g e k (znx φ) (pc + 2) ls (zR φ.1 :: st) (mrow d φ.1 (fun _ => 0))) : Fr g e k φ pc ls (zI (n : Int) :: st) d := by
  intro p ee s m args below meth c hC h0 H locs A hH hS hl T hT X
  have hz := hH.size hC h0 hS hT X
  have hsz : zsz φ.1 = n := by unfold zsz; rw [hL]; rfl
  have hm := zsl_mono h0
  have e1 : φ.1 - e.2.1.1 + 1 = (znx φ).1 - e.2.1.1 := by show _ = φ.1 + 1 - _; omega
  have e2 : zsl φ.1 - zsl e.2.1.1 + n = zsl (znx φ).1 - zsl e.2.1.1 := by show _ = zsl φ.1 + zsz φ.1 - _; omega
  have hr : inR (n : Int) := ⟨by omega, by omega⟩
  have hcl : (Int32.ofInt (n : Int)).toNatClampNeg = n := by rw [Int32.toNatClampNeg_ofInt_of_le (by omega) (by omega)]; rfl
  suffices hW : W p (gL g) ee e.1 s m args below meth c H locs (φ.1 - e.2.1.1) (zsl φ.1 - zsl e.2.1.1) (e.2.2 args s below) (F0 m pc A ((zI (n : Int) :: st).map (zval g))) from hW T hT X
  refine va_newaK (n := Int32.ofInt (n : Int)) (N := n) (g := F0 m pc A ((zI (n : Int) :: st).map (zval g)))  hC.1 hC.2.1 (by rw [hat]; exact hC.2.2.2.2.2.1 _ w1) rfl hd rfl (by rw [Int32.lt_iff_toInt_lt, ti_of hr]; show ¬ ((n : Int) < 0); omega) hcl (by rw [hat]; show n * 4 ≤ 536870912; omega) (by rw [e1]; exact hroom.1) (by rw [e2]; exact hroom.2) hz fun H1 cA f1 z1 o1 hAr hNm => ?_
  rw [e1, e2]
  rw [hat] at hNm f1
  have hcA : cA = gI g := Option.some.inj (hNm.symm.trans (hC.2.2.2.2.2.2.1.1.2 0 (gI g, .int) rfl).2)
  subst hcA
  have hsame : ∀ q, q < s.heap.size → ¬ gA g q → H1[q]? = s.heap[q]? := fun q h1 h2 => (o1 q (by have := hS.1; omega)).trans (hS.2.1 q h1 h2)
  refine hh p ee s m args below meth c hC (Nat.le_trans h0 (Nat.le_succ _)) H1 locs A ?_ ⟨by have := hS.1; omega, hsame, hS.2.2⟩ hl
  intro q hq
  rcases Nat.lt_or_ge q φ.1 with hlt | hge
  · rw [zent_congr (φ := φ) (φ' := znx φ) (d := d) (d' := mrow d φ.1 (fun _ => 0)) (k := q) (mrow_ne (Nat.ne_of_lt hlt)) (fun _ => rfl)]
    exact (hH q hlt).kept (o1 _ (by show gB g + q < gB g + φ.1; omega))
  · have hqe : q = φ.1 := by
      have h2 : q < φ.1 + 1 := hq
      omega
    subst hqe
    rw [zent_int hL, mrow_eq]
    exact f1
theorem z_newZ {n : Nat} {at' : ArrayType} (hat : newarray.typeOf at' = .boolean) (hL : LAY φ.1 = (2, n)) (hwi : True) (hn : n < 2 ^ 26) (hd : decode (kcode k) pc = .ok (.newarray at', 2)) (w1 : Cond.arrayClass .boolean ∈ GW)
    (hroom : φ.1 + 1 - e.2.1.1 ≤ e.1.cells ∧ zsl (φ.1 + 1) - zsl e.2.1.1 ≤ e.1.slots) (hh : Fr g e k (znx φ) (pc + 2) ls (zR φ.1 :: st) (mrow d φ.1 (fun _ => 0))) : Fr g e k φ pc ls (zI (n : Int) :: st) d := by
  intro p ee s m args below meth c hC h0 H locs A hH hS hl T hT X
  have hz := hH.size hC h0 hS hT X
  have hsz : zsz φ.1 = n := by unfold zsz; rw [hL]; rfl
  have hm := zsl_mono h0
  have e1 : φ.1 - e.2.1.1 + 1 = (znx φ).1 - e.2.1.1 := by show _ = φ.1 + 1 - _; omega
  have e2 : zsl φ.1 - zsl e.2.1.1 + n = zsl (znx φ).1 - zsl e.2.1.1 := by show _ = zsl φ.1 + zsz φ.1 - _; omega
  have hr : inR (n : Int) := ⟨by omega, by omega⟩
  have hcl : (Int32.ofInt (n : Int)).toNatClampNeg = n := by rw [Int32.toNatClampNeg_ofInt_of_le (by omega) (by omega)]; rfl
  suffices hW : W p (gL g) ee e.1 s m args below meth c H locs (φ.1 - e.2.1.1) (zsl φ.1 - zsl e.2.1.1) (e.2.2 args s below) (F0 m pc A ((zI (n : Int) :: st).map (zval g))) from hW T hT X
  refine va_newaK (n := Int32.ofInt (n : Int)) (N := n) (g := F0 m pc A ((zI (n : Int) :: st).map (zval g)))  hC.1 hC.2.1 (by rw [hat]; exact hC.2.2.2.2.2.1 _ w1) rfl hd rfl (by rw [Int32.lt_iff_toInt_lt, ti_of hr]; show ¬ ((n : Int) < 0); omega) hcl (by rw [hat]; show n * 1 ≤ 536870912; omega) (by rw [e1]; exact hroom.1) (by rw [e2]; exact hroom.2) hz fun H1 cA f1 z1 o1 hAr hNm => ?_
  rw [e1, e2]
  rw [hat] at hNm f1
  have hcA : cA = gZ g := Option.some.inj (hNm.symm.trans (hC.2.2.2.2.2.2.1.1.2 1 (gZ g, .boolean) rfl).2)
  subst hcA
  have hsame : ∀ q, q < s.heap.size → ¬ gA g q → H1[q]? = s.heap[q]? := fun q h1 h2 => (o1 q (by have := hS.1; omega)).trans (hS.2.1 q h1 h2)
  refine hh p ee s m args below meth c hC (Nat.le_trans h0 (Nat.le_succ _)) H1 locs A ?_ ⟨by have := hS.1; omega, hsame, hS.2.2⟩ hl
  intro q hq
  rcases Nat.lt_or_ge q φ.1 with hlt | hge
  · rw [zent_congr (φ := φ) (φ' := znx φ) (d := d) (d' := mrow d φ.1 (fun _ => 0)) (k := q) (mrow_ne (Nat.ne_of_lt hlt)) (fun _ => rfl)]
    exact (hH q hlt).kept (o1 _ (by show gB g + q < gB g + φ.1; omega))
  · have hqe : q = φ.1 := by
      have h2 : q < φ.1 + 1 := hq
      omega
    subst hqe
    rw [zent_bool hL, mrow_eq]
    exact f1
theorem z_newR {n idx : Nat} (hL : LAY φ.1 = (3, n)) (hwi : ∀ i, φ.2 φ.1 i = false) (hn : n < 2 ^ 26) (hd : decode (kcode k) pc = .ok (.anewarray idx, 3)) (w1 : Cond.classLink (kown k) idx RX7 ∈ GW)
    (hroom : φ.1 + 1 - e.2.1.1 ≤ e.1.cells ∧ zsl (φ.1 + 1) - zsl e.2.1.1 ≤ e.1.slots) (hh : Fr g e k (znx φ) (pc + 3) ls (zR φ.1 :: st) (mrow d φ.1 (fun _ => 0))) : Fr g e k φ pc ls (zI (n : Int) :: st) d := by
  intro p ee s m args below meth c hC h0 H locs A hH hS hl T hT X
  have hz := hH.size hC h0 hS hT X
  have hsz : zsz φ.1 = n := by unfold zsz; rw [hL]; rfl
  have hm := zsl_mono h0
  have e1 : φ.1 - e.2.1.1 + 1 = (znx φ).1 - e.2.1.1 := by show _ = φ.1 + 1 - _; omega
  have e2 : zsl φ.1 - zsl e.2.1.1 + n = zsl (znx φ).1 - zsl e.2.1.1 := by show _ = zsl φ.1 + zsz φ.1 - _; omega
  have hr : inR (n : Int) := ⟨by omega, by omega⟩
  have hcl : (Int32.ofInt (n : Int)).toNatClampNeg = n := by rw [Int32.toNatClampNeg_ofInt_of_le (by omega) (by omega)]; rfl
  suffices hW : W p (gL g) ee e.1 s m args below meth c H locs (φ.1 - e.2.1.1) (zsl φ.1 - zsl e.2.1.1) (e.2.2 args s below) (F0 m pc A ((zI (n : Int) :: st).map (zval g))) from hW T hT X
  refine W.anew (n := Int32.ofInt (n : Int)) (g := F0 m pc A ((zI (n : Int) :: st).map (zval g)))  hC.1 hC.2.1 hC.2.2.2.2.1 (hC.2.2.2.2.2.1 _ w1) (va_AO.use hC.2.2.2.2.2.2.1.2.2.1) rfl hd rfl (by rw [Int32.lt_iff_toInt_lt, ti_of hr]; show ¬ ((n : Int) < 0); omega) (by rw [hcl]; omega) (by rw [e1]; exact hroom.1) (by rw [hcl, e2]; exact hroom.2) fun cA kA comp f1 f2 f3 f4 => ?_
  rw [hcl, e1, e2]
  obtain ⟨kA', comp', g1, g2, g3, g4⟩ := (hC.2.2.2.2.2.2.1.1.2 2 (gR g, .object RX7) rfl).2
  have hcA : cA = gR g := Option.some.inj (f1.symm.trans g4)
  subst hcA
  generalize hH1 : H.push ({ cls := gR g, slots := Array.replicate n .null, vm := .none } : Cell) = H1
  have z1 : H1.size = H.size + 1 := by rw [← hH1, Array.size_push]
  have f1 : H1[H.size]? = some (arrV (gR g) n (fun _ => .null)) := by rw [← hH1, Array.getElem?_push_size, ← arrV_new]
  have o1 : ∀ q : Nat, q < H.size → H1[q]? = H[q]? := fun q hq => by rw [← hH1, Array.getElem?_push, if_neg (Nat.ne_of_lt hq)]
  rw [hz] at f1 z1 o1 ⊢
  have hsame : ∀ q, q < s.heap.size → ¬ gA g q → H1[q]? = s.heap[q]? := fun q h1 h2 => (o1 q (by have := hS.1; omega)).trans (hS.2.1 q h1 h2)
  refine hh p ee s m args below meth c hC (Nat.le_trans h0 (Nat.le_succ _)) H1 locs A ?_ ⟨by have := hS.1; omega, hsame, hS.2.2⟩ hl
  intro q hq
  rcases Nat.lt_or_ge q φ.1 with hlt | hge
  · rw [zent_congr (φ := φ) (φ' := znx φ) (d := d) (d' := mrow d φ.1 (fun _ => 0)) (k := q) (mrow_ne (Nat.ne_of_lt hlt)) (fun _ => rfl)]
    exact (hH q hlt).kept (o1 _ (by show gB g + q < gB g + φ.1; omega))
  · have hqe : q = φ.1 := by
      have h2 : q < φ.1 + 1 := hq
      omega
    subst hqe
    rw [zent_ref hL]
    show H1[gB g + φ.1]? = some (vp_cell _ _)
    rw [vp_cell_q, f1]
    congr 2
    funext j
    show Value.null = va_rf (if φ.2 φ.1 j = true then _ else none)
    rw [hwi j]
    rfl
-- copies
theorem nfw : nativeFrameWords "java/lang/System" "arraycopy" 5 + 11 ≤ 60 := by decide +kernel
def zcp (f h : Int → Int) (sp dp n : Int) : Int → Int := fun i => if dp ≤ i ∧ i < dp + n then f (sp + (i - dp)) else h i
theorem zcp_of {f h : Int → Int} {sp dp n : Int} (h1 : 0 ≤ sp) (h2 : 0 ≤ dp) (h3 : 0 ≤ n) : (fun j : Nat => Int32.ofInt (zcp f h sp dp n (j : Int))) = va_cpy (fun j : Nat => Int32.ofInt (f (j : Int))) (fun j : Nat => Int32.ofInt (h (j : Int))) sp.toNat dp.toNat n.toNat := by
  funext j
  unfold zcp va_cpy
  by_cases hj : dp.toNat ≤ j ∧ j < dp.toNat + n.toNat
  · rw [if_pos (by omega), if_pos hj]
    congr 2
    omega
  · rw [if_neg (by omega), if_neg hj]
theorem z_copy {a b n0 n1 : Nat} {sp dp n : Int} {idx : Nat} (hLa : LAY a = (1, n0)) (hLb : LAY b = (1, n1)) (ha : a < φ.1) (hb : b < φ.1) (hn : n0 < 2 ^ 31 ∧ n1 < 2 ^ 31) (hi : 0 ≤ sp ∧ 0 ≤ dp ∧ 0 ≤ n ∧ sp + n ≤ n0 ∧ dp + n ≤ n1) (hd : decode (kcode k) pc = .ok (.invokestatic idx, 3))
    (w1 : Cond.methodLink (kown k) idx arraycopyName ∈ GW) (w2 : Cond.native arraycopyName ∈ GW) (w3 : Cond.static arraycopyName ∈ GW) (w4 : Cond.initialized "java/lang/System" ∈ GW) (hroom : 1 ≤ e.1.frames ∧ zcs st + 60 ≤ e.1.locals)
    (hh : Fr g e k φ (pc + 3) ls st (mrow d b (zcp (d a) (d b) sp dp n))) : Fr g e k φ pc ls (zI n :: zI dp :: zR b :: zI sp :: zR a :: st) d := by
  intro p ee s m args below meth c hC h0 H locs A hH hS hl
  have ha' := zwl_get (g := g) (d := d) ha
  rw [zent_int hLa] at ha'
  have hb' := zwl_get (g := g) (d := d) hb
  rw [zent_int hLb] at hb'
  obtain ⟨i1, i2, i3, i4, i5⟩ := hi
  have q0 : inR sp := ⟨by omega, by omega⟩
  have q1 : inR dp := ⟨by omega, by omega⟩
  have q2 : inR n := ⟨by omega, by omega⟩
  have c0 : (Int32.ofInt sp).toNatClampNeg = sp.toNat := Int32.toNatClampNeg_ofInt_of_le (by have := q0.1; omega) (by have := q0.2; omega)
  have c1 : (Int32.ofInt dp).toNatClampNeg = dp.toNat := Int32.toNatClampNeg_ofInt_of_le (by have := q1.1; omega) (by have := q1.2; omega)
  have c2 : (Int32.ofInt n).toNatClampNeg = n.toNat := Int32.toNatClampNeg_ofInt_of_le (by have := q2.1; omega) (by have := q2.2; omega)
  have nn : ∀ z : Int, inR z → 0 ≤ z → ¬ Int32.ofInt z < 0 := fun z hz h0 => by
    rw [Int32.lt_iff_toInt_lt, ti_of hz]
    show ¬ (z < 0)
    omega
  refine va_copyi (sp := Int32.ofInt sp) (dp := Int32.ofInt dp) (n := Int32.ofInt n) hC.1 hC.2.1 (hC.2.2.2.1.trans hl.1.symm) hC.2.2.2.2.1 (hC.2.2.2.2.2.1 _ w1) (hC.2.2.2.2.2.1 _ w2) (hC.2.2.2.2.2.1 _ w3) (hC.2.2.2.2.2.1 _ w4) hC.2.2.2.2.2.2.1.1 (zwl_P hH) zwl_D hS a b 0 0 ha' hb' (ty := .int) rfl rfl rfl (nn sp q0 i1) (nn dp q1 i2) (nn n q2 i3) (by rw [c0, c2]; omega) (by rw [c1, c2]; omega) (fun _ _ => rfl) hroom.1 (by rw [zcs_of]; have := nfw; have := hroom.2; omega) hd (fun H1 locs1 hP hD hS1 => ?_)
  refine hh p ee s m args below meth c hC h0 H1 locs1 A (zH_set hb rfl hP ?_ (fun q hq => zent_congr (mrow_ne hq) (fun _ => rfl))) hS1 hl
  rw [zent_int hLb, c0, c1, c2, mrow_eq, zcp_of i1 i2 i3]
end
end
section
-- ROWS: statics, Math, longs, the script (wb_, u_tn, g_or are pasted from kit/laws/BITS.to-paste)
theorem wb_tb (n : Nat) : (lN n).toBitVec = BitVec.ofNat 64 n := rfl
theorem wb_inj {a b : Int64} (h : a.toBitVec = b.toBitVec) : a = b := Int64.toBitVec_inj.mp h
theorem wb_tn {n : Nat} (h : n < 2 ^ 64) : (lN n).toBitVec.toNat = n := by rw [wb_tb, BitVec.toNat_ofNat, Nat.mod_eq_of_lt h]
theorem wb_of (x : Int64) : ∃ n, n < 2 ^ 64 ∧ x = lN n := ⟨x.toBitVec.toNat, x.toBitVec.isLt, wb_inj (by rw [wb_tb]; simp)⟩
theorem wb_c : ∀ k, k < 64 → ((nI k).toInt64 &&& 63) = lN k := by decide +kernel
theorem wb_cu : ∀ k, k < 64 → ((nI k).toInt64.toUInt64 &&& Int64.toUInt64 63) = UInt64.ofNat k := by decide +kernel
theorem wb_sm : ∀ k, k < 64 → (BitVec.ofNat 64 k).smod 64 = BitVec.ofNat 64 k := by decide +kernel
theorem wb_pw {a b : Nat} (h : a ≤ b) : 2 ^ b = 2 ^ a * 2 ^ (b - a) := by rw [← Nat.pow_add]; congr 1; omega
theorem wb_lt2 {a b : Nat} (h : a < b) : 2 ^ a < 2 ^ b := Nat.pow_lt_pow_right (by decide) h
theorem wb_mod (n : Nat) : lN n = lN (n % 2 ^ 64) := wb_inj (by rw [wb_tb, wb_tb]; apply BitVec.eq_of_toNat_eq; rw [BitVec.toNat_ofNat, BitVec.toNat_ofNat, Nat.mod_mod])
theorem wb_shr {n k : Nat} (hn : n < 2 ^ 64) (hk : k < 64) : ((lN n).toUInt64 >>> ((nI k).toInt64.toUInt64 &&& Int64.toUInt64 63)).toInt64 = lN (n / 2 ^ k) := by
  rw [wb_cu k hk]
  apply wb_inj
  apply BitVec.eq_of_toNat_eq
  show ((lN n).toUInt64 >>> UInt64.ofNat k).toNat = (BitVec.ofNat 64 _).toNat
  have h1 : (UInt64.ofNat k).toNat = k := by
    show (BitVec.ofNat 64 k).toNat = k
    rw [BitVec.toNat_ofNat, Nat.mod_eq_of_lt (by omega)]
  have h2 : (lN n).toUInt64.toNat = n := wb_tn hn
  rw [UInt64.toNat_shiftRight, h1, h2, Nat.mod_eq_of_lt hk, Nat.shiftRight_eq_div_pow, BitVec.toNat_ofNat, Nat.mod_eq_of_lt (Nat.lt_of_le_of_lt (Nat.div_le_self _ _) hn)]
theorem wb_shl (n : Nat) {k : Nat} (hk : k < 64) : lN n <<< ((nI k).toInt64 &&& 63) = lN (n * 2 ^ k) := by
  rw [wb_c k hk]
  apply wb_inj
  rw [Int64.toBitVec_shiftLeft, wb_tb, wb_tb, wb_tb, wb_sm k hk]
  apply BitVec.eq_of_toNat_eq
  rw [BitVec.shiftLeft_eq', BitVec.toNat_shiftLeft, BitVec.toNat_ofNat, BitVec.toNat_ofNat, BitVec.toNat_ofNat, Nat.mod_eq_of_lt (show k < 2 ^ 64 by omega), Nat.shiftLeft_eq, Nat.mul_mod, Nat.mod_mod, ← Nat.mul_mod]
theorem wb_and {a b : Nat} (ha : a < 2 ^ 64) (hb : b < 2 ^ 64) : lN a &&& lN b = lN (a &&& b) := by
  apply wb_inj
  rw [Int64.toBitVec_and, wb_tb, wb_tb, wb_tb]
  apply BitVec.eq_of_toNat_eq
  rw [BitVec.toNat_and, BitVec.toNat_ofNat, BitVec.toNat_ofNat, BitVec.toNat_ofNat, Nat.mod_eq_of_lt ha, Nat.mod_eq_of_lt hb, Nat.mod_eq_of_lt (Nat.and_lt_two_pow _ hb)]
theorem wb_mask {n k : Nat} (hn : n < 2 ^ 64) (hk : k < 64) : lN n &&& lN (2 ^ k - 1) = lN (n % 2 ^ k) := by
  rw [wb_and hn (by have := wb_lt2 hk; omega), Nat.and_two_pow_sub_one_eq_mod]
theorem u_tn {n : Nat} (h : n < 2 ^ 64) : (UInt64.ofNat n).toNat = n := Nat.mod_eq_of_lt h
theorem g_or {k p a b : Nat} (hp : 2 ^ k = p) (ha : a < p) (h : b * p + a < 2 ^ 64) : lN (b * p) ||| lN a = lN (b * p + a) := by
  subst hp
  have h1 : b * 2 ^ k ||| a = b * 2 ^ k + a := by rw [← Nat.shiftLeft_eq, Nat.shiftLeft_add_eq_or_of_lt ha]
  have h3 : UInt64.ofNat (b * 2 ^ k) ||| UInt64.ofNat a = UInt64.ofNat (b * 2 ^ k + a) := UInt64.toNat_inj.mp (by rw [UInt64.toNat_or, u_tn (by omega), u_tn (by omega), u_tn h, h1])
  have h2 := congrArg UInt64.toInt64 h3
  exact h2
section
variable {g : zGG} {e : zEE} {k : zMk} {φ : zPhi} {pc : Nat} {ls : List (Option zPV)} {st : List zPV} {d : zMem}
theorem z_gets1 {idx : Nat} {host : String} (hd : decode (kcode k) pc = .ok (.getstatic idx, 3)) (w1 : Cond.fieldLinkNest (kown k) idx RX8 "FIRST_SETTINGS" "[I" host ∈ NW) (hh : Fr g e k φ (pc + 3) ls (zS1 :: st) d) : Fr g e k φ pc ls st d := by
  intro p ee s m args below meth c hC h0 H locs A hH hS hl
  have hk := hh p ee s m args below meth c hC h0 H locs A hH hS hl
  exact va_getsN hC.1 hC.2.1 hC.2.2.2.2.2.2.1.2.2.2.1 hS hC.2.2.2.2.1 (va_Nw.use rfl (hC.2.2.2.2.2.2.1.2.1 _ w1)) (fun _ h => h) hd hk
theorem z_gets2 {idx : Nat} (hd : decode (kcode k) pc = .ok (.getstatic idx, 3)) (w1 : Cond.fieldLink (kown k) idx RX8 "HIGHEST_SETTINGS" "[I" ∈ GW) (hh : Fr g e k φ (pc + 3) ls (zS2 :: st) d) : Fr g e k φ pc ls st d := by
  intro p ee s m args below meth c hC h0 H locs A hH hS hl
  have hk := hh p ee s m args below meth c hC h0 H locs A hH hS hl
  exact va_gets hC.1 hC.2.1 hC.2.2.2.2.2.2.1.2.2.2.2.2.1 hS hC.2.2.2.2.1 (hC.2.2.2.2.2.1 _ w1) (fun _ h => h) hd hk
theorem z_len1 (hd : decode (kcode k) pc = .ok (.arraylength, 1)) (hh : Fr g e k φ (pc + 1) ls (zI 4 :: st) d) : Fr g e k φ pc ls (zS1 :: st) d := by
  intro p ee s m args below meth c hC h0 H locs A hH hS hl
  have hk := hh p ee s m args below meth c hC h0 H locs A hH hS hl
  exact va_tlen hC.1 hC.2.1 hC.2.2.2.2.2.2.1.2.2.2.2.1 hS (v := Int32.ofInt 4) rfl hd hk
theorem z_len2 (hd : decode (kcode k) pc = .ok (.arraylength, 1)) (hh : Fr g e k φ (pc + 1) ls (zI 4 :: st) d) : Fr g e k φ pc ls (zS2 :: st) d := by
  intro p ee s m args below meth c hC h0 H locs A hH hS hl
  have hk := hh p ee s m args below meth c hC h0 H locs A hH hS hl
  exact va_tlen hC.1 hC.2.1 hC.2.2.2.2.2.2.1.2.2.2.2.2.2.1 hS (v := Int32.ofInt 4) rfl hd hk
theorem z_ld2 {i : Int} (hd : decode (kcode k) pc = .ok (.iaload, 1)) (hi : 0 ≤ i ∧ i < 4) (hh : Fr g e k φ (pc + 1) ls (zI (f2 i.toNat) :: st) d) : Fr g e k φ pc ls (zI i :: zS2 :: st) d := by
  intro p ee s m args below meth c hC h0 H locs A hH hS hl
  have hk := hh p ee s m args below meth c hC h0 H locs A hH hS hl
  have hv := vin_of (n := 4) hi (by decide)
  exact va_ti hC.1 hC.2.1 hC.2.2.2.2.2.2.1.2.2.2.2.2.2.1 hS hv.1 (v := .int (Int32.ofInt (f2 i.toNat))) (by rw [show (Int32.ofInt (zI i).2).toNatClampNeg = i.toNat from hv.2]) hd hk
theorem z_sld {i : Int} (hd : decode (kcode k) pc = .ok (.iaload, 1)) (hi : 0 ≤ i ∧ i < gN g) (hn : gN g < 2 ^ 31) (hh : Fr g e k φ (pc + 1) ls (zI (gxs g i.toNat).toInt :: st) d) : Fr g e k φ pc ls (zI i :: zX :: st) d := by
  intro p ee s m args below meth c hC h0 H locs A hH hS hl
  have hk := hh p ee s m args below meth c hC h0 H locs A hH hS hl
  have hv := vin_of hi hn
  obtain ⟨hX, hlt⟩ := hC.2.2.2.2.2.2.1.2.2.2.2.2.2.2
  have hbl : gX g < s.heap.size := by
    obtain ⟨scr, h1, -⟩ := hX
    exact (Array.getElem?_eq_some_iff.mp h1).1
  refine va_sld hC.1 hC.2.1 hX hbl (Nat.not_le.mpr hlt) hS hv.1 hd (W.eq ?_ hk)
  rw [show (Int32.ofInt (zI i).2).toNatClampNeg = i.toNat from hv.2, List.map_cons, zval_I, Int32.ofInt_toInt]
theorem z_slen (hd : decode (kcode k) pc = .ok (.arraylength, 1)) (hh : Fr g e k φ (pc + 1) ls (zI (gN g : Int) :: st) d) : Fr g e k φ pc ls (zX :: st) d := by
  intro p ee s m args below meth c hC h0 H locs A hH hS hl
  have hk := hh p ee s m args below meth c hC h0 H locs A hH hS hl
  obtain ⟨hX, hlt⟩ := hC.2.2.2.2.2.2.1.2.2.2.2.2.2.2
  have hbl : gX g < s.heap.size := by
    obtain ⟨scr, h1, -⟩ := hX
    exact (Array.getElem?_eq_some_iff.mp h1).1
  refine va_slen hC.1 hC.2.1 hX hbl (Nat.not_le.mpr hlt) hS hd (W.eq ?_ hk)
  rw [List.map_cons, zval_I, Int32.ofInt_eq_ofNat]
theorem z_max {x y : Int} {idx : Nat} (hr : inR x ∧ inR y) (hd : decode (kcode k) pc = .ok (.invokestatic idx, 3)) (w1 : Cond.methodLink (kown k) idx Lib.Math.max.name ∈ GW) (w2 : Cond.static Lib.Math.max.name ∈ GW) (w3 : Cond.initialized "java/lang/Math" ∈ GW) (w4 : Cond.code Lib.Math.max.name Lib.Math.max.code 2 (some .int) ∈ GW) (hroom : 1 ≤ e.1.frames ∧ zcs st + 13 ≤ e.1.locals ∧ φ.1 - e.2.1.1 ≤ e.1.cells ∧ zsl φ.1 - zsl e.2.1.1 ≤ e.1.slots)
    (hh : Fr g e k φ (pc + 3) ls (zI (max x y) :: st) d) : Fr g e k φ pc ls (zI y :: zI x :: st) d := by
  intro p ee s m args below meth c hC h0 H locs A hH hS hl
  have hk := hh p ee s m args below meth c hC h0 H locs A hH hS hl
  refine va_mmax hC.1 hC.2.1 (hC.2.2.2.1.trans hl.1.symm) hC.2.2.2.2.1 (hC.2.2.2.2.2.1 _ w1) (hC.2.2.2.2.2.1 _ w2) (hC.2.2.2.2.2.1 _ w3) (hC.2.2.2.2.2.1 _ w4) hroom.1 (by rw [zcs_of]; exact hroom.2.1) hroom.2.2.1 hroom.2.2.2 hd (W.eq ?_ hk)
  show F0 m (pc + 3) A (.int (if Int32.ofInt x < Int32.ofInt y then Int32.ofInt y else Int32.ofInt x) :: _) = F0 m (pc + 3) A (.int (Int32.ofInt (max x y)) :: _)
  by_cases h : x < y
  · rw [if_pos ((ofI_lt hr.1 hr.2).mpr h), show max x y = y by omega]
  · rw [if_neg (fun q => h ((ofI_lt hr.1 hr.2).mp q)), show max x y = x by omega]
theorem z_min {x y : Int} {idx : Nat} (hr : inR x ∧ inR y) (hd : decode (kcode k) pc = .ok (.invokestatic idx, 3)) (w1 : Cond.methodLink (kown k) idx Lib.Math.min.name ∈ GW) (w2 : Cond.static Lib.Math.min.name ∈ GW) (w3 : Cond.initialized "java/lang/Math" ∈ GW) (w4 : Cond.code Lib.Math.min.name Lib.Math.min.code 2 (some .int) ∈ GW) (hroom : 1 ≤ e.1.frames ∧ zcs st + 13 ≤ e.1.locals ∧ φ.1 - e.2.1.1 ≤ e.1.cells ∧ zsl φ.1 - zsl e.2.1.1 ≤ e.1.slots)
    (hh : Fr g e k φ (pc + 3) ls (zI (min x y) :: st) d) : Fr g e k φ pc ls (zI y :: zI x :: st) d := by
  intro p ee s m args below meth c hC h0 H locs A hH hS hl
  have hk := hh p ee s m args below meth c hC h0 H locs A hH hS hl
  refine va_mmin hC.1 hC.2.1 (hC.2.2.2.1.trans hl.1.symm) hC.2.2.2.2.1 (hC.2.2.2.2.2.1 _ w1) (hC.2.2.2.2.2.1 _ w2) (hC.2.2.2.2.2.1 _ w3) (hC.2.2.2.2.2.1 _ w4) hroom.1 (by rw [zcs_of]; exact hroom.2.1) hroom.2.2.1 hroom.2.2.2 hd (W.eq ?_ hk)
  show F0 m (pc + 3) A (.int (if Int32.ofInt y < Int32.ofInt x then Int32.ofInt y else Int32.ofInt x) :: _) = F0 m (pc + 3) A (.int (Int32.ofInt (min x y)) :: _)
  by_cases h : y < x
  · rw [if_pos ((ofI_lt hr.2 hr.1).mpr h), show min x y = y by omega]
  · rw [if_neg (fun q => h ((ofI_lt hr.2 hr.1).mp q)), show min x y = x by omega]
theorem z_abs {x : Int} {idx : Nat} (hr : inR x) (hd : decode (kcode k) pc = .ok (.invokestatic idx, 3)) (w1 : Cond.methodLink (kown k) idx Lib.Math.abs.name ∈ GW) (w2 : Cond.static Lib.Math.abs.name ∈ GW) (w3 : Cond.initialized "java/lang/Math" ∈ GW) (w4 : Cond.code Lib.Math.abs.name Lib.Math.abs.code 1 (some .int) ∈ GW) (hroom : 1 ≤ e.1.frames ∧ zcs st + 13 ≤ e.1.locals ∧ φ.1 - e.2.1.1 ≤ e.1.cells ∧ zsl φ.1 - zsl e.2.1.1 ≤ e.1.slots)
    (hh : Fr g e k φ (pc + 3) ls (zI (if 0 ≤ x then x else -x) :: st) d) : Fr g e k φ pc ls (zI x :: st) d := by
  intro p ee s m args below meth c hC h0 H locs A hH hS hl
  have hk := hh p ee s m args below meth c hC h0 H locs A hH hS hl
  refine va_mabs hC.1 hC.2.1 (hC.2.2.2.1.trans hl.1.symm) hC.2.2.2.2.1 (hC.2.2.2.2.2.1 _ w1) (hC.2.2.2.2.2.1 _ w2) (hC.2.2.2.2.2.1 _ w3) (hC.2.2.2.2.2.1 _ w4) hroom.1 (by rw [zcs_of]; exact hroom.2.1) hroom.2.2.1 hroom.2.2.2 hd (W.eq ?_ hk)
  show F0 m (pc + 3) A (.int (if (Int32.ofInt 0) ≤ Int32.ofInt x then Int32.ofInt x else Int32.ofInt 0 - Int32.ofInt x) :: _) = F0 m (pc + 3) A (.int (Int32.ofInt (if 0 ≤ x then x else -x)) :: _)
  by_cases h : 0 ≤ x
  · rw [if_pos ((ofI_le inR0 hr).mpr h), if_pos h]
  · rw [if_neg (fun q => h ((ofI_le inR0 hr).mp q)), if_neg h, ← Int32.ofInt_sub, Int.zero_sub]
-- copy from a static row
theorem z_copyS {b n1 : Nat} {n : Int} {idx : Nat} (hLb : LAY b = (1, n1)) (hb : b < φ.1) (hn : n1 < 2 ^ 31) (hi : 0 ≤ n ∧ n ≤ 4 ∧ n ≤ n1) (hd : decode (kcode k) pc = .ok (.invokestatic idx, 3))
    (w1 : Cond.methodLink (kown k) idx arraycopyName ∈ GW) (w2 : Cond.native arraycopyName ∈ GW) (w3 : Cond.static arraycopyName ∈ GW) (w4 : Cond.initialized "java/lang/System" ∈ GW) (hroom : 1 ≤ e.1.frames ∧ zcs st + 60 ≤ e.1.locals)
    (hh : Fr g e k φ (pc + 3) ls st (mrow d b (zcp (fun i => f1 i.toNat) (d b) 0 0 n))) : Fr g e k φ pc ls (zI n :: zI 0 :: zR b :: zI 0 :: zS1 :: st) d := by
  intro p ee s m args below meth c hC h0 H locs A hH hS hl T hT X
  have hb' := zwl_get (g := g) (d := d) hb
  rw [zent_int hLb] at hb'
  obtain ⟨i1, i2, i3⟩ := hi
  have q2 : inR n := ⟨by omega, by omega⟩
  have c2 : (Int32.ofInt n).toNatClampNeg = n.toNat := Int32.toNatClampNeg_ofInt_of_le (by have := q2.1; omega) (by have := q2.2; omega)
  have c0 : (Int32.ofInt 0).toNatClampNeg = 0 := by decide +kernel
  have nn : ∀ z : Int, inR z → 0 ≤ z → ¬ Int32.ofInt z < 0 := fun z hz h0 => by
    rw [Int32.lt_iff_toInt_lt, ti_of hz]
    show ¬ (z < 0)
    omega
  obtain ⟨scr, hs1, hs2, hs3, hs4, hs4', hs5, hs7⟩ := hC.2.2.2.2.2.2.1.2.2.2.2.1
  have hK := hC.2.2.2.2.2.2.1.1
  have hP := zwl_P hH
  have hc0 : H[gS1 g]? = some scr := by rw [hS.2.1 (gS1 g) (Array.getElem?_eq_some_iff.mp hs1).1 hs7]; exact hs1
  have hc1 : H[gB g + b]? = some (vp_cell (gI g) (n1, .inl (fun i => Int32.ofInt (d b (i : Int))))) := hP b _ hb'
  obtain ⟨hs6, k0, hk0, cm0, hkk0⟩ := hs2
  obtain ⟨-, k1, hk1, cm1, hkk1⟩ := (hK.2 0 (gI g, .int) rfl).1 n1 (fun j => .int (Int32.ofInt (d b (j : Int))))
  obtain ⟨vm', X', step⟩ := X.arraycopy hC.1 hC.2.2.2.2.1 (hC.2.2.2.2.2.1 _ w1) (hC.2.2.2.2.2.1 _ w2) (hC.2.2.2.2.2.1 _ w3) (hC.2.2.2.2.2.1 _ w4) (src := gS1 g) (dst := gB g + b) (cs := scr) (cd := vp_cell (gI g) (n1, .inl (fun i => Int32.ofInt (d b (i : Int))))) (srcPos := Int32.ofInt 0) (destPos := Int32.ofInt 0) (n := Int32.ofInt n) (by rw [hT]; exact hc0) (by rw [hT]; exact hc1)
    hs6 (fun _ h => by cases h) hs3 (fun h => by cases h) hk0 hk1 hkk0 hkk1 (by simp [refKind]) (nn 0 inR0 (by decide)) (nn 0 inR0 (by decide)) (nn n q2 i1)
    (by rw [ti_of inR0, ti_of q2]; omega)
    (by rw [ti_of inR0, ti_of q2]; show ¬ _ > ((arrV (gI g) n1 (fun j => .int (Int32.ofInt (d b (j : Int))))).slots.size : Int); rw [arrV_size]; omega)
    (fun vm₁ _ i hi => by
      rw [c2] at hi
      have e : scr.slots.getD ((Int32.ofInt 0).toNatClampNeg + i) .null = .int (Int32.ofInt (f1 i)) := by
        rw [c0, Nat.zero_add, Array.getD_eq_getD_getElem?, hs5 _ (by omega)]
        rfl
      refine ⟨?_, ?_⟩
      · rw [e]
        rfl
      · rw [e]
        exact trivial)
    (g := F0 m pc A ((zI n :: zI 0 :: zR b :: zI 0 :: zS1 :: st).map (zval g))) rfl (by rw [hC.2.2.2.1]; exact hl.1) (rest := st.map (zval g)) rfl (by rw [hC.2.1]; exact hd) hroom.1 (by show 2 * 0 + _ + _ ≤ _; rw [zcs_of]; have := nfw; have := hroom.2; omega)
  have e1 : copied scr (vp_cell (gI g) (n1, .inl (fun i => Int32.ofInt (d b (i : Int))))) (Int32.ofInt 0) (Int32.ofInt 0) (Int32.ofInt n) = vp_cell (gI g) (n1, .inl (va_cpy (fun j => Int32.ofInt (f1 j)) (fun i => Int32.ofInt (d b (i : Int))) (Int32.ofInt 0).toNatClampNeg (Int32.ofInt 0).toNatClampNeg (Int32.ofInt n).toNatClampNeg)) := va_copiedX (n0 := 4) (n1 := n1) (sp := (Int32.ofInt 0).toNatClampNeg) (dp := (Int32.ofInt 0).toNatClampNeg) (n := (Int32.ofInt n).toNatClampNeg) (fun z => .int z) scr (gI g) (fun j => Int32.ofInt (f1 j)) (fun i => Int32.ofInt (d b (i : Int))) hs5 (by rw [c0, c2]; omega)
  rw [e1, c0, c2] at X' step
  have hl2 : gB g + b < H.size := (Array.getElem?_eq_some_iff.mp hc1).1
  generalize hcell : vp_cell (gI g) (n1, .inl (va_cpy (fun j => Int32.ofInt (f1 j)) (fun i => Int32.ofInt (d b (i : Int))) 0 0 n.toNat)) = cell at X' step
  have hheap : ((T.setVm vm').setCell (gB g + b) cell).heap = H.setIfInBounds (gB g + b) cell := by rw [← hT]; rfl
  have oq : ∀ q : Nat, q ≠ gB g + b → (H.setIfInBounds (gB g + b) cell)[q]? = H[q]? := fun q hq => by simp [Array.getElem?_setIfInBounds, Ne.symm hq]
  have hAb : gA g (gB g + b) := Nat.le_add_right _ _
  obtain ⟨t, a1, b1⟩ := hh p ee s m args below meth c hC h0 (H.setIfInBounds (gB g + b) cell) _ A (by
      intro q hq
      by_cases hqb : q = b
      · subst hqb
        rw [zent_int hLb, mrow_eq]
        show (H.setIfInBounds (gB g + q) cell)[gB g + q]? = some (vp_cell _ _)
        rw [show (fun i : Nat => Int32.ofInt (zcp (fun i => f1 i.toNat) (d q) 0 0 n (i : Int))) = va_cpy (fun j => Int32.ofInt (f1 j)) (fun i => Int32.ofInt (d q (i : Int))) 0 0 n.toNat from zcp_of (f := fun i => f1 i.toNat) (h := d q) (Int.le_refl 0) (Int.le_refl 0) i1, hcell]
        simp [Array.getElem?_setIfInBounds, hl2]
      · rw [zent_congr (φ := φ) (φ' := φ) (d := d) (k := q) (mrow_ne hqb) (fun _ => rfl)]
        exact (hH q hq).kept (oq _ (by show gB g + q ≠ gB g + b; omega)))
    ⟨by rw [Array.size_setIfInBounds]; exact hS.1, fun q g1 g2 => by
      rw [oq q (fun e => g2 (by rw [e]; exact hAb))]
      exact hS.2.1 q g1 g2, fun q hq => by
      rcases List.mem_append.mp hq with h | h
      · exact hS.2.2 q h
      · obtain ⟨z, -, hz⟩ := List.mem_map.mp h
        rw [← hz]
        exact hAb⟩ hl _ hheap X'
  exact ⟨t, step t a1, b1⟩
-- longs
theorem l_nat {n : Int} (h : 0 ≤ n) : Int64.ofInt n = lN n.toNat := by
  obtain ⟨m, rfl⟩ := Int.eq_ofNat_of_zero_le h
  exact Int64.ofInt_eq_ofNat
theorem z_l2i {n : Int} (hd : decode (kcode k) pc = .ok (.l2i, 1)) (hh : Fr g e k φ (pc + 1) ls (zI n :: st) d) : Fr g e k φ pc ls (zL n :: st) d := by
  intro p ee s m args below meth c hC h0 H locs A hH hS hl
  have hk := hh p ee s m args below meth c hC h0 H locs A hH hS hl
  exact lv_l2i hC.1 hC.2.1 hd Int64.toInt32_ofInt hk
theorem z_i2l {n : Int} (hr : inR n) (hd : decode (kcode k) pc = .ok (.i2l, 1)) (hh : Fr g e k φ (pc + 1) ls (zL n :: st) d) : Fr g e k φ pc ls (zI n :: st) d := by
  intro p ee s m args below meth c hC h0 H locs A hH hS hl
  have hk := hh p ee s m args below meth c hC h0 H locs A hH hS hl
  exact lv_i2l hC.1 hC.2.1 hd (Int32.toInt64_ofInt (by have := hr.1; exact this) (by have := hr.2; exact this)) hk
theorem z_ldc2 {idx : Nat} {n : Int} {v : Int64} (hv : v = Int64.ofInt n) (w1 : Cond.constantLong (kown k) idx v ∈ GW) (hd : decode (kcode k) pc = .ok (.ldc2_w idx, 3)) (hh : Fr g e k φ (pc + 3) ls (zL n :: st) d) : Fr g e k φ pc ls st d := by
  subst hv
  intro p ee s m args below meth c hC h0 H locs A hH hS hl
  have hk := hh p ee s m args below meth c hC h0 H locs A hH hS hl
  exact lv_ldc2 hC.1 hC.2.1 hC.2.2.2.2.1 (hC.2.2.2.2.2.1 _ w1) hd hk
theorem l_mask8 {n : Int} (h : 0 ≤ n ∧ n < 18446744073709551616) : Int64.ofInt n &&& Int64.ofInt 255 = Int64.ofInt (n % 256) := by
  rw [show Int64.ofInt 255 = lN (2 ^ 8 - 1) from by decide +kernel, l_nat h.1, l_nat (show 0 ≤ n % 256 by omega), wb_mask (by omega) (by decide)]
  congr 1
  omega
theorem l_mask32 {n : Int} (h : 0 ≤ n ∧ n < 18446744073709551616) : Int64.ofInt n &&& Int64.ofInt 4294967295 = Int64.ofInt (n % 4294967296) := by
  rw [show Int64.ofInt 4294967295 = lN (2 ^ 32 - 1) from by decide +kernel, l_nat h.1, l_nat (show 0 ≤ n % 4294967296 by omega), wb_mask (by omega) (by decide)]
  congr 1
  omega
theorem z_land {x y r : Int} (hr : Int64.ofInt x &&& Int64.ofInt y = Int64.ofInt r) (hd : decode (kcode k) pc = .ok (.land, 1)) (hh : Fr g e k φ (pc + 1) ls (zL r :: st) d) : Fr g e k φ pc ls (zL y :: zL x :: st) d := by
  intro p ee s m args below meth c hC h0 H locs A hH hS hl
  have hk := hh p ee s m args below meth c hC h0 H locs A hH hS hl
  exact lv_land hC.1 hC.2.1 hd (W.eq (by show F0 m (pc + 1) A (.long (Int64.ofInt x &&& Int64.ofInt y) :: _) = _; rw [hr]; rfl) hk)
theorem z_lor {x y r : Int} (hr : Int64.ofInt x ||| Int64.ofInt y = Int64.ofInt r) (hd : decode (kcode k) pc = .ok (.lor, 1)) (hh : Fr g e k φ (pc + 1) ls (zL r :: st) d) : Fr g e k φ pc ls (zL y :: zL x :: st) d := by
  intro p ee s m args below meth c hC h0 H locs A hH hS hl
  have hk := hh p ee s m args below meth c hC h0 H locs A hH hS hl
  exact lv_lor hC.1 hC.2.1 hd (W.eq (by show F0 m (pc + 1) A (.long (Int64.ofInt x ||| Int64.ofInt y) :: _) = _; rw [hr]; rfl) hk)
theorem z_lshl32 {x r : Int} (hr : Int64.ofInt x <<< ((Int32.ofInt 32).toInt64 &&& 63) = Int64.ofInt r) (hd : decode (kcode k) pc = .ok (.lshl, 1)) (hh : Fr g e k φ (pc + 1) ls (zL r :: st) d) : Fr g e k φ pc ls (zI 32 :: zL x :: st) d := by
  intro p ee s m args below meth c hC h0 H locs A hH hS hl
  have hk := hh p ee s m args below meth c hC h0 H locs A hH hS hl
  exact lv_lshl hC.1 hC.2.1 hd hr hk
theorem z_lushr {n s0 : Int} (h : 0 ≤ n ∧ n < 18446744073709551616) (hs : 0 ≤ s0 ∧ s0 < 64) (hd : decode (kcode k) pc = .ok (.lushr, 1)) (hh : Fr g e k φ (pc + 1) ls (zL (n / 2 ^ s0.toNat) :: st) d) : Fr g e k φ pc ls (zI s0 :: zL n :: st) d := by
  intro p ee s m args below meth c hC h0 H locs A hH hS hl
  have hk := hh p ee s m args below meth c hC h0 H locs A hH hS hl
  refine lv_lushr (v := Int64.ofInt (n / 2 ^ s0.toNat)) hC.1 hC.2.1 hd ?_ hk
  obtain ⟨a, rfl⟩ := Int.eq_ofNat_of_zero_le h.1
  obtain ⟨b, rfl⟩ := Int.eq_ofNat_of_zero_le hs.1
  show ((Int64.ofInt (a : Int)).toUInt64 >>> ((Int32.ofInt (b : Int)).toInt64.toUInt64 &&& Int64.toUInt64 63)).toInt64 = _
  have e : ((a : Int) / 2 ^ ((b : Int)).toNat) = (((a / 2 ^ b : Nat)) : Int) := by
    rw [Int.toNat_natCast, Int.natCast_ediv, Int.natCast_pow]
    rfl
  rw [e, Int64.ofInt_eq_ofNat, Int64.ofInt_eq_ofNat, Int32.ofInt_eq_ofNat]
  exact wb_shr (by omega) (by omega)
theorem z_lcmp {x y : Int} (hx : 0 ≤ x ∧ x < 18446744073709551616) (hy : 0 ≤ y ∧ y < 18446744073709551616) (hd : decode (kcode k) pc = .ok (.lcmp, 1)) (hh : (x = y → Fr g e k φ (pc + 1) ls (zI 0 :: st) d) ∧ (x ≠ y → ∀ v : Int, inR v → v ≠ 0 → Fr g e k φ (pc + 1) ls (zI v :: st) d)) : Fr g e k φ pc ls (zL y :: zL x :: st) d := by
  intro p ee s m args below meth c hC h0 H locs A hH hS hl
  by_cases h : x = y
  · subst h
    have hk := hh.1 rfl p ee s m args below meth c hC h0 H locs A hH hS hl
    refine W.lcmp hC.1 hC.2.1 hd (W.eq ?_ hk)
    show F0 m (pc + 1) A (.int (lg_cmp (Int64.ofInt x) (Int64.ofInt x)) :: _) = _
    rw [show lg_cmp (Int64.ofInt x) (Int64.ofInt x) = 0 from by simp [lg_cmp]]
    rfl
  · have hne : Int64.ofInt x ≠ Int64.ofInt y := by
      intro q
      rw [l_nat hx.1, l_nat hy.1] at q
      have := congrArg (fun z : Int64 => z.toBitVec.toNat) q
      simp only [wb_tn (show x.toNat < 2 ^ 64 by omega), wb_tn (show y.toNat < 2 ^ 64 by omega)] at this
      omega
    have hk := hh.2 h (lg_cmp (Int64.ofInt x) (Int64.ofInt y)).toInt ⟨by have := Int32.le_toInt (lg_cmp (Int64.ofInt x) (Int64.ofInt y)); omega, by have := Int32.toInt_lt (lg_cmp (Int64.ofInt x) (Int64.ofInt y)); omega⟩ (by
      unfold lg_cmp
      split
      · decide
      · decide) p ee s m args below meth c hC h0 H locs A hH hS hl
    refine W.lcmp hC.1 hC.2.1 hd (W.eq ?_ hk)
    rw [List.map_cons, zval_I, Int32.ofInt_toInt]
    rfl
end
end
section
-- STATIC FACTS: rivers, methods, words
def FUL : zPhi := (176, fun _ _ => true)
def isRiv (a : Nat) : Prop := a = 1 ∨ a = 16 ∨ a = 35 ∨ a = 50 ∨ a = 65 ∨ a = 80 ∨ a = 95 ∨ a = 110 ∨ a = 133 ∨ a = 148
def isBd (a : Nat) : Prop := a = 129 ∨ a = 131
def isNk (a : Nat) : Prop := a = 130 ∨ a = 132
theorem rl0 {a : Nat} (h : isRiv a) : LAY (a) = (0, 7) := by rcases h with rfl | rfl | rfl | rfl | rfl | rfl | rfl | rfl | rfl | rfl <;> decide +kernel
theorem rlt0 {a : Nat} (h : isRiv a) : a < 176 := by rcases h with rfl | rfl | rfl | rfl | rfl | rfl | rfl | rfl | rfl | rfl <;> decide
theorem hlt0 {a n : Nat} (h : a + 4 < n) : a < n := by omega
theorem rl1 {a : Nat} (h : isRiv a) : LAY (a + 1) = (1, 4) := by rcases h with rfl | rfl | rfl | rfl | rfl | rfl | rfl | rfl | rfl | rfl <;> decide +kernel
theorem rlt1 {a : Nat} (h : isRiv a) : a + 1 < 176 := by rcases h with rfl | rfl | rfl | rfl | rfl | rfl | rfl | rfl | rfl | rfl <;> decide
theorem hlt1 {a n : Nat} (h : a + 4 < n) : a + 1 < n := by omega
theorem rl2 {a : Nat} (h : isRiv a) : LAY (a + 2) = (0, 1) := by rcases h with rfl | rfl | rfl | rfl | rfl | rfl | rfl | rfl | rfl | rfl <;> decide +kernel
theorem rlt2 {a : Nat} (h : isRiv a) : a + 2 < 176 := by rcases h with rfl | rfl | rfl | rfl | rfl | rfl | rfl | rfl | rfl | rfl <;> decide
theorem hlt2 {a n : Nat} (h : a + 4 < n) : a + 2 < n := by omega
theorem rl3 {a : Nat} (h : isRiv a) : LAY (a + 3) = (1, 150) := by rcases h with rfl | rfl | rfl | rfl | rfl | rfl | rfl | rfl | rfl | rfl <;> decide +kernel
theorem rlt3 {a : Nat} (h : isRiv a) : a + 3 < 176 := by rcases h with rfl | rfl | rfl | rfl | rfl | rfl | rfl | rfl | rfl | rfl <;> decide
theorem hlt3 {a n : Nat} (h : a + 4 < n) : a + 3 < n := by omega
theorem rl4 {a : Nat} (h : isRiv a) : LAY (a + 4) = (1, 240) := by rcases h with rfl | rfl | rfl | rfl | rfl | rfl | rfl | rfl | rfl | rfl <;> decide +kernel
theorem rlt4 {a : Nat} (h : isRiv a) : a + 4 < 176 := by rcases h with rfl | rfl | rfl | rfl | rfl | rfl | rfl | rfl | rfl | rfl <;> decide
theorem hlt4 {a n : Nat} (h : a + 4 < n) : a + 4 < n := by omega
theorem rl5 {a : Nat} (h : isRiv a) : LAY (a + 5) = (0, 4) := by rcases h with rfl | rfl | rfl | rfl | rfl | rfl | rfl | rfl | rfl | rfl <;> decide +kernel
theorem rlt5 {a : Nat} (h : isRiv a) : a + 5 < 176 := by rcases h with rfl | rfl | rfl | rfl | rfl | rfl | rfl | rfl | rfl | rfl <;> decide
theorem hlt5 {a n : Nat} (h : a + 9 < n) : a + 5 < n := by omega
theorem rl6 {a : Nat} (h : isRiv a) : LAY (a + 6) = (1, 240) := by rcases h with rfl | rfl | rfl | rfl | rfl | rfl | rfl | rfl | rfl | rfl <;> decide +kernel
theorem rlt6 {a : Nat} (h : isRiv a) : a + 6 < 176 := by rcases h with rfl | rfl | rfl | rfl | rfl | rfl | rfl | rfl | rfl | rfl <;> decide
theorem hlt6 {a n : Nat} (h : a + 9 < n) : a + 6 < n := by omega
theorem rl7 {a : Nat} (h : isRiv a) : LAY (a + 7) = (1, 12) := by rcases h with rfl | rfl | rfl | rfl | rfl | rfl | rfl | rfl | rfl | rfl <;> decide +kernel
theorem rlt7 {a : Nat} (h : isRiv a) : a + 7 < 176 := by rcases h with rfl | rfl | rfl | rfl | rfl | rfl | rfl | rfl | rfl | rfl <;> decide
theorem hlt7 {a n : Nat} (h : a + 9 < n) : a + 7 < n := by omega
theorem rl8 {a : Nat} (h : isRiv a) : LAY (a + 8) = (1, 12) := by rcases h with rfl | rfl | rfl | rfl | rfl | rfl | rfl | rfl | rfl | rfl <;> decide +kernel
theorem rlt8 {a : Nat} (h : isRiv a) : a + 8 < 176 := by rcases h with rfl | rfl | rfl | rfl | rfl | rfl | rfl | rfl | rfl | rfl <;> decide
theorem hlt8 {a n : Nat} (h : a + 9 < n) : a + 8 < n := by omega
theorem rl9 {a : Nat} (h : isRiv a) : LAY (a + 9) = (1, 12) := by rcases h with rfl | rfl | rfl | rfl | rfl | rfl | rfl | rfl | rfl | rfl <;> decide +kernel
theorem rlt9 {a : Nat} (h : isRiv a) : a + 9 < 176 := by rcases h with rfl | rfl | rfl | rfl | rfl | rfl | rfl | rfl | rfl | rfl <;> decide
theorem hlt9 {a n : Nat} (h : a + 9 < n) : a + 9 < n := by omega
theorem rl10 {a : Nat} (h : isRiv a) : LAY (a + 10) = (1, 240) := by rcases h with rfl | rfl | rfl | rfl | rfl | rfl | rfl | rfl | rfl | rfl <;> decide +kernel
theorem rlt10 {a : Nat} (h : isRiv a) : a + 10 < 176 := by rcases h with rfl | rfl | rfl | rfl | rfl | rfl | rfl | rfl | rfl | rfl <;> decide
theorem rl11 {a : Nat} (h : isRiv a) : LAY (a + 11) = (1, 240) := by rcases h with rfl | rfl | rfl | rfl | rfl | rfl | rfl | rfl | rfl | rfl <;> decide +kernel
theorem rlt11 {a : Nat} (h : isRiv a) : a + 11 < 176 := by rcases h with rfl | rfl | rfl | rfl | rfl | rfl | rfl | rfl | rfl | rfl <;> decide
theorem rl12 {a : Nat} (h : isRiv a) : LAY (a + 12) = (1, 480) := by rcases h with rfl | rfl | rfl | rfl | rfl | rfl | rfl | rfl | rfl | rfl <;> decide +kernel
theorem rlt12 {a : Nat} (h : isRiv a) : a + 12 < 176 := by rcases h with rfl | rfl | rfl | rfl | rfl | rfl | rfl | rfl | rfl | rfl <;> decide
theorem rl13 {a : Nat} (h : isRiv a) : LAY (a + 13) = (1, 480) := by rcases h with rfl | rfl | rfl | rfl | rfl | rfl | rfl | rfl | rfl | rfl <;> decide +kernel
theorem rlt13 {a : Nat} (h : isRiv a) : a + 13 < 176 := by rcases h with rfl | rfl | rfl | rfl | rfl | rfl | rfl | rfl | rfl | rfl <;> decide
theorem rl14 {a : Nat} (h : isRiv a) : LAY (a + 14) = (1, 8) := by rcases h with rfl | rfl | rfl | rfl | rfl | rfl | rfl | rfl | rfl | rfl <;> decide +kernel
theorem rlt14 {a : Nat} (h : isRiv a) : a + 14 < 176 := by rcases h with rfl | rfl | rfl | rfl | rfl | rfl | rfl | rfl | rfl | rfl <;> decide
theorem rt0_0 {a : Nat} (h : isRiv a) : RT a 0 = a + 1 := by rcases h with rfl | rfl | rfl | rfl | rfl | rfl | rfl | rfl | rfl | rfl <;> decide +kernel
theorem rt0_1 {a : Nat} (h : isRiv a) : RT a 1 = a + 2 := by rcases h with rfl | rfl | rfl | rfl | rfl | rfl | rfl | rfl | rfl | rfl <;> decide +kernel
theorem rt0_2 {a : Nat} (h : isRiv a) : RT a 2 = a + 5 := by rcases h with rfl | rfl | rfl | rfl | rfl | rfl | rfl | rfl | rfl | rfl <;> decide +kernel
theorem rt0_3 {a : Nat} (h : isRiv a) : RT a 3 = a + 10 := by rcases h with rfl | rfl | rfl | rfl | rfl | rfl | rfl | rfl | rfl | rfl <;> decide +kernel
theorem rt0_4 {a : Nat} (h : isRiv a) : RT a 4 = a + 11 := by rcases h with rfl | rfl | rfl | rfl | rfl | rfl | rfl | rfl | rfl | rfl <;> decide +kernel
theorem rt0_5 {a : Nat} (h : isRiv a) : RT a 5 = a + 12 := by rcases h with rfl | rfl | rfl | rfl | rfl | rfl | rfl | rfl | rfl | rfl <;> decide +kernel
theorem rt0_6 {a : Nat} (h : isRiv a) : RT a 6 = a + 13 := by rcases h with rfl | rfl | rfl | rfl | rfl | rfl | rfl | rfl | rfl | rfl <;> decide +kernel
theorem rt0_7 {a : Nat} (h : isRiv a) : RT a 7 = a + 14 := by rcases h with rfl | rfl | rfl | rfl | rfl | rfl | rfl | rfl | rfl | rfl <;> decide +kernel
theorem rt2_0 {a : Nat} (h : isRiv a) : RT (a + 2) 0 = a + 3 := by rcases h with rfl | rfl | rfl | rfl | rfl | rfl | rfl | rfl | rfl | rfl <;> decide +kernel
theorem rt2_1 {a : Nat} (h : isRiv a) : RT (a + 2) 1 = a + 4 := by rcases h with rfl | rfl | rfl | rfl | rfl | rfl | rfl | rfl | rfl | rfl <;> decide +kernel
theorem rt5_0 {a : Nat} (h : isRiv a) : RT (a + 5) 0 = a + 6 := by rcases h with rfl | rfl | rfl | rfl | rfl | rfl | rfl | rfl | rfl | rfl <;> decide +kernel
theorem rt5_1 {a : Nat} (h : isRiv a) : RT (a + 5) 1 = a + 7 := by rcases h with rfl | rfl | rfl | rfl | rfl | rfl | rfl | rfl | rfl | rfl <;> decide +kernel
theorem rt5_2 {a : Nat} (h : isRiv a) : RT (a + 5) 2 = a + 8 := by rcases h with rfl | rfl | rfl | rfl | rfl | rfl | rfl | rfl | rfl | rfl <;> decide +kernel
theorem rt5_3 {a : Nat} (h : isRiv a) : RT (a + 5) 3 = a + 9 := by rcases h with rfl | rfl | rfl | rfl | rfl | rfl | rfl | rfl | rfl | rfl <;> decide +kernel
theorem riv1 : isRiv 1 := by unfold isRiv; omega
theorem riv16 : isRiv 16 := by unfold isRiv; omega
theorem riv35 : isRiv 35 := by unfold isRiv; omega
theorem riv50 : isRiv 50 := by unfold isRiv; omega
theorem riv65 : isRiv 65 := by unfold isRiv; omega
theorem riv80 : isRiv 80 := by unfold isRiv; omega
theorem riv95 : isRiv 95 := by unfold isRiv; omega
theorem riv110 : isRiv 110 := by unfold isRiv; omega
theorem riv133 : isRiv 133 := by unfold isRiv; omega
theorem riv148 : isRiv 148 := by unfold isRiv; omega
theorem RT31 (n : Nat) : RT 31 n = if n = 0 then 133 else 148 := by
  have h : LAY 31 = (3, 2) := by decide +kernel
  unfold RT; rw [h]; cases n <;> rfl
theorem RT34 (n : Nat) : RT 34 n = 35 + 15 * n := by
  have h : LAY 34 = (3, 6) := by decide +kernel
  unfold RT; rw [h]; rfl
theorem rivS (n : Nat) : isRiv (RT 31 n) := by rw [RT31]; unfold isRiv; split <;> omega
theorem rivH {i : Int} (h : 0 ≤ i ∧ i < 6) : isRiv (RT 34 i.toNat) := by rw [RT34]; unfold isRiv; omega
theorem lbd {a : Nat} (h : isBd a) : LAY a = (0, 0) := by rcases h with rfl | rfl <;> decide +kernel
theorem lnk {a : Nat} (h : isNk a) : LAY a = (0, 3) := by rcases h with rfl | rfl <;> decide +kernel
theorem ltbd {a : Nat} (h : isBd a) : a < 176 := by rcases h with rfl | rfl <;> decide
theorem ltnk {a : Nat} (h : isNk a) : a < 176 := by rcases h with rfl | rfl <;> decide
theorem ly0 : LAY 0 = (0, 8) := by decide +kernel
theorem ly31 : LAY 31 = (3, 2) := by decide +kernel
theorem ly32 : LAY 32 = (2, 2) := by decide +kernel
theorem ly33 : LAY 33 = (0, 2) := by decide +kernel
theorem ly34 : LAY 34 = (3, 6) := by decide +kernel
theorem ly125 : LAY 125 = (0, 5) := by decide +kernel
theorem ly126 : LAY 126 = (1, 64) := by decide +kernel
theorem ly127 : LAY 127 = (1, 150) := by decide +kernel
theorem ly128 : LAY 128 = (0, 6) := by decide +kernel
theorem ly129 : LAY 129 = (0, 0) := by decide +kernel
theorem ly130 : LAY 130 = (0, 3) := by decide +kernel
theorem ly131 : LAY 131 = (0, 0) := by decide +kernel
theorem ly132 : LAY 132 = (0, 3) := by decide +kernel
theorem ly163 : LAY 163 = (0, 9) := by decide +kernel
theorem ly164 : LAY 164 = (1, 1407) := by decide +kernel
theorem ly165 : LAY 165 = (1, 1407) := by decide +kernel
theorem ly166 : LAY 166 = (1, 8442) := by decide +kernel
theorem ly167 : LAY 167 = (1, 2814) := by decide +kernel
theorem ly168 : LAY 168 = (2, 2) := by decide +kernel
theorem ly169 : LAY 169 = (1, 64) := by decide +kernel
theorem ly170 : LAY 170 = (1, 150) := by decide +kernel
theorem ly171 : LAY 171 = (1, 150) := by decide +kernel
theorem ly172 : LAY 172 = (2, 240) := by decide +kernel
theorem ly173 : LAY 173 = (1, 150) := by decide +kernel
theorem ly174 : LAY 174 = (2, 480) := by decide +kernel
theorem ly175 : LAY 175 = (1, 150) := by decide +kernel
theorem rt_0_0 : RT 0 0 = 1 := by decide +kernel
theorem rt_0_1 : RT 0 1 = 16 := by decide +kernel
theorem rt_0_2 : RT 0 2 = 31 := by decide +kernel
theorem rt_0_3 : RT 0 3 = 32 := by decide +kernel
theorem rt_0_4 : RT 0 4 = 33 := by decide +kernel
theorem rt_0_5 : RT 0 5 = 125 := by decide +kernel
theorem rt_0_6 : RT 0 6 = 128 := by decide +kernel
theorem rt_0_7 : RT 0 7 = 131 := by decide +kernel
theorem rt_0_8 : RT 0 8 = 132 := by decide +kernel
theorem rt_33_0 : RT 33 0 = 34 := by decide +kernel
theorem rt_125_0 : RT 125 0 = 126 := by decide +kernel
theorem rt_125_1 : RT 125 1 = 127 := by decide +kernel
theorem rt_128_0 : RT 128 0 = 129 := by decide +kernel
theorem rt_128_1 : RT 128 1 = 130 := by decide +kernel
theorem rt_163_0 : RT 163 0 = 164 := by decide +kernel
theorem rt_163_1 : RT 163 1 = 165 := by decide +kernel
theorem rt_163_2 : RT 163 2 = 166 := by decide +kernel
theorem rt_163_4 : RT 163 4 = 167 := by decide +kernel
theorem rt_163_5 : RT 163 5 = 168 := by decide +kernel
theorem rt_163_6 : RT 163 6 = 169 := by decide +kernel
theorem rt_163_8 : RT 163 8 = 170 := by decide +kernel
theorem rt_163_9 : RT 163 9 = 171 := by decide +kernel
theorem rt_163_10 : RT 163 10 = 172 := by decide +kernel
theorem rt_163_12 : RT 163 12 = 173 := by decide +kernel
theorem rt_163_18 : RT 163 18 = 174 := by decide +kernel
theorem rt_163_21 : RT 163 21 = 175 := by decide +kernel
theorem mu_get {d : zMem} {a : Nat} {i v : Int} : mu d a i v a i = v := by simp [mu, mrow, rup]
theorem mu_na {d : zMem} {a b : Nat} {i j v : Int} (h : b ≠ a) : mu d a i v b j = d b j := by simp [mu, mrow, h]
theorem mu_ni {d : zMem} {a : Nat} {i j v : Int} (h : j ≠ i) : mu d a i v a j = d a j := by simp [mu, mrow, rup, h]
section
variable {g : zGG} {e : zEE} {k : zMk} {φ : zPhi} {pc : Nat} {ls : List (Option zPV)} {st : List zPV} {d : zMem}
def zle : List (Option zPV) → List (Option zPV) → Prop
  | [], _ => True
  | _ :: _, [] => False
  | x :: xs, y :: ys => (x = none ∨ x = y) ∧ zle xs ys
theorem zle_at : ∀ (l l' : List (Option zPV)) (i : Nat) (v : zPV), zle l l' → l[i]? = some (some v) → l'[i]? = some (some v)
  | [], _, i, v, _, h => by simp at h
  | x :: xs, [], i, v, h, _ => h.elim
  | x :: xs, y :: ys, 0, v, h, h2 => by
    rw [List.getElem?_cons_zero] at h2 ⊢
    cases h2
    rcases h.1 with q | q
    · cases q
    · rw [← q]
  | x :: xs, y :: ys, i + 1, v, h, h2 => by
    rw [List.getElem?_cons_succ] at h2 ⊢
    exact zle_at xs ys i v h.2 h2
theorem Fr_weak {ls2 : List (Option zPV)} (hz : zle ls2 ls) (h : Fr g e k φ pc ls2 st d) : Fr g e k φ pc ls st d := by
  intro p ee s m args below meth c hC h0 H locs A hH hS hl
  exact h p ee s m args below meth c hC h0 H locs A hH hS ⟨hl.1, hl.2.1, fun i v hi => hl.2.2 i v (zle_at _ _ i v hz hi)⟩
theorem z_getI' (ci fk : Nat) {idx a : Nat} {fv : Int} (hL : LAY a = (0, ci)) (hci : ci < 10) (hfk : fk < ncl ci) (ht : isRf (tyc ci fk) = false) (ha : a < φ.1) (hw : Cond.fieldLink (kown k) idx (RXc ci) (TXc ci fk).2.1 (TXc ci fk).2.2.1 ∈ GW) (hd : decode (kcode k) pc = .ok (.getfield idx, 3)) (hv : d a (fk : Int) = fv) (hh : Fr g e k φ (pc + 3) ls (zI fv :: st) d) : Fr g e k φ pc ls (zR a :: st) d := z_getI ci fk hL hci hfk ht ha hw hd (by rw [hv]; exact hh)
theorem z_getIN' (ci fk : Nat) {idx a : Nat} {fv : Int} {host : String} (hL : LAY a = (0, ci)) (hci : ci < 10) (hfk : fk < ncl ci) (ht : isRf (tyc ci fk) = false) (ha : a < φ.1) (hw : Cond.fieldLinkNest (kown k) idx (RXc ci) (TXc ci fk).2.1 (TXc ci fk).2.2.1 host ∈ NW) (hd : decode (kcode k) pc = .ok (.getfield idx, 3)) (hv : d a (fk : Int) = fv) (hh : Fr g e k φ (pc + 3) ls (zI fv :: st) d) : Fr g e k φ pc ls (zR a :: st) d := z_getIN ci fk hL hci hfk ht ha hw hd (by rw [hv]; exact hh)
theorem z_iaload' {a n : Nat} {i fv : Int} (hL : LAY a = (1, n)) (ha : a < φ.1) (hn : n < 2 ^ 31) (hd : decode (kcode k) pc = .ok (.iaload, 1)) (hi : 0 ≤ i ∧ i < n) (hv : d a i = fv) (hh : Fr g e k φ (pc + 1) ls (zI fv :: st) d) : Fr g e k φ pc ls (zI i :: zR a :: st) d := z_iaload hL ha hn hd hi (by rw [hv]; exact hh)
theorem z_baload' {a n : Nat} {i fv : Int} (hL : LAY a = (2, n)) (ha : a < φ.1) (hn : n < 2 ^ 31) (hd : decode (kcode k) pc = .ok (.baload, 1)) (hi : 0 ≤ i ∧ i < n) (hv : d a i = fv) (hh : Fr g e k φ (pc + 1) ls (zI fv :: st) d) : Fr g e k φ pc ls (zI i :: zR a :: st) d := z_baload hL ha hn hd hi (by rw [hv]; exact hh)
theorem z_alen' {a q n : Nat} {v : Int} (hL : LAY a = (q, n)) (hq : q = 1 ∨ q = 2 ∨ q = 3) (ha : a < φ.1) (hv : (n : Int) = v) (hd : decode (kcode k) pc = .ok (.arraylength, 1)) (hh : Fr g e k φ (pc + 1) ls (zI v :: st) d) : Fr g e k φ pc ls (zR a :: st) d := z_alen hL hq ha hd (by rw [hv]; exact hh)
theorem zroom_self {k' : zMk} {Q : Int → zMem → Prop} (h1 : kfr k' + 1 ≤ kfr k) (h2 : 8 + (kn k' + 11) + klo k' ≤ klo k) : zroom (eM g k φ φ Q) k' φ := ⟨⟨h1, h2⟩, Nat.le_refl _, Nat.le_refl _⟩
theorem zb_if_eq {x : Int} {off : Int} {tgt : Nat} (hd : decode (kcode k) pc = .ok (.ifCond .eq off, 3)) (ht : (pc : Int) + off = (tgt : Int)) (hr : inR x) (hh : (x = 0 → Fr g e k φ tgt ls st d) ∧ (x ≠ 0 → Fr g e k φ (pc + 3) ls st d)) : Fr g e k φ pc ls (zI x :: st) d := z_if_eq hd ht hr ⟨hh.1, fun q => hh.2 q⟩
theorem zb_if_ne {x : Int} {off : Int} {tgt : Nat} (hd : decode (kcode k) pc = .ok (.ifCond .ne off, 3)) (ht : (pc : Int) + off = (tgt : Int)) (hr : inR x) (hh : (x ≠ 0 → Fr g e k φ tgt ls st d) ∧ (x = 0 → Fr g e k φ (pc + 3) ls st d)) : Fr g e k φ pc ls (zI x :: st) d := z_if_ne hd ht hr ⟨hh.1, fun q => hh.2 (Decidable.not_not.mp q)⟩
theorem zb_if_lt {x : Int} {off : Int} {tgt : Nat} (hd : decode (kcode k) pc = .ok (.ifCond .lt off, 3)) (ht : (pc : Int) + off = (tgt : Int)) (hr : inR x) (hh : (x < 0 → Fr g e k φ tgt ls st d) ∧ (0 ≤ x → Fr g e k φ (pc + 3) ls st d)) : Fr g e k φ pc ls (zI x :: st) d := z_if_lt hd ht hr ⟨hh.1, fun q => hh.2 (Int.not_lt.mp q)⟩
theorem zb_if_ge {x : Int} {off : Int} {tgt : Nat} (hd : decode (kcode k) pc = .ok (.ifCond .ge off, 3)) (ht : (pc : Int) + off = (tgt : Int)) (hr : inR x) (hh : (0 ≤ x → Fr g e k φ tgt ls st d) ∧ (x < 0 → Fr g e k φ (pc + 3) ls st d)) : Fr g e k φ pc ls (zI x :: st) d := z_if_ge hd ht hr ⟨hh.1, fun q => hh.2 (Int.not_le.mp q)⟩
theorem zb_if_gt {x : Int} {off : Int} {tgt : Nat} (hd : decode (kcode k) pc = .ok (.ifCond .gt off, 3)) (ht : (pc : Int) + off = (tgt : Int)) (hr : inR x) (hh : (0 < x → Fr g e k φ tgt ls st d) ∧ (x ≤ 0 → Fr g e k φ (pc + 3) ls st d)) : Fr g e k φ pc ls (zI x :: st) d := z_if_gt hd ht hr ⟨hh.1, fun q => hh.2 (Int.not_lt.mp q)⟩
theorem zb_if_le {x : Int} {off : Int} {tgt : Nat} (hd : decode (kcode k) pc = .ok (.ifCond .le off, 3)) (ht : (pc : Int) + off = (tgt : Int)) (hr : inR x) (hh : (x ≤ 0 → Fr g e k φ tgt ls st d) ∧ (0 < x → Fr g e k φ (pc + 3) ls st d)) : Fr g e k φ pc ls (zI x :: st) d := z_if_le hd ht hr ⟨hh.1, fun q => hh.2 (Int.not_le.mp q)⟩
theorem zb_icmp_eq {x y : Int} {off : Int} {tgt : Nat} (hd : decode (kcode k) pc = .ok (.if_icmp .eq off, 3)) (ht : (pc : Int) + off = (tgt : Int)) (hr : inR x ∧ inR y) (hh : (x = y → Fr g e k φ tgt ls st d) ∧ (x ≠ y → Fr g e k φ (pc + 3) ls st d)) : Fr g e k φ pc ls (zI y :: zI x :: st) d := z_icmp_eq hd ht hr ⟨hh.1, fun q => hh.2 q⟩
theorem zb_icmp_ne {x y : Int} {off : Int} {tgt : Nat} (hd : decode (kcode k) pc = .ok (.if_icmp .ne off, 3)) (ht : (pc : Int) + off = (tgt : Int)) (hr : inR x ∧ inR y) (hh : (x ≠ y → Fr g e k φ tgt ls st d) ∧ (x = y → Fr g e k φ (pc + 3) ls st d)) : Fr g e k φ pc ls (zI y :: zI x :: st) d := z_icmp_ne hd ht hr ⟨hh.1, fun q => hh.2 (Decidable.not_not.mp q)⟩
theorem zb_icmp_lt {x y : Int} {off : Int} {tgt : Nat} (hd : decode (kcode k) pc = .ok (.if_icmp .lt off, 3)) (ht : (pc : Int) + off = (tgt : Int)) (hr : inR x ∧ inR y) (hh : (x < y → Fr g e k φ tgt ls st d) ∧ (y ≤ x → Fr g e k φ (pc + 3) ls st d)) : Fr g e k φ pc ls (zI y :: zI x :: st) d := z_icmp_lt hd ht hr ⟨hh.1, fun q => hh.2 (Int.not_lt.mp q)⟩
theorem zb_icmp_ge {x y : Int} {off : Int} {tgt : Nat} (hd : decode (kcode k) pc = .ok (.if_icmp .ge off, 3)) (ht : (pc : Int) + off = (tgt : Int)) (hr : inR x ∧ inR y) (hh : (y ≤ x → Fr g e k φ tgt ls st d) ∧ (x < y → Fr g e k φ (pc + 3) ls st d)) : Fr g e k φ pc ls (zI y :: zI x :: st) d := z_icmp_ge hd ht hr ⟨hh.1, fun q => hh.2 (Int.not_le.mp q)⟩
theorem zb_icmp_gt {x y : Int} {off : Int} {tgt : Nat} (hd : decode (kcode k) pc = .ok (.if_icmp .gt off, 3)) (ht : (pc : Int) + off = (tgt : Int)) (hr : inR x ∧ inR y) (hh : (y < x → Fr g e k φ tgt ls st d) ∧ (x ≤ y → Fr g e k φ (pc + 3) ls st d)) : Fr g e k φ pc ls (zI y :: zI x :: st) d := z_icmp_gt hd ht hr ⟨hh.1, fun q => hh.2 (Int.not_lt.mp q)⟩
theorem zb_icmp_le {x y : Int} {off : Int} {tgt : Nat} (hd : decode (kcode k) pc = .ok (.if_icmp .le off, 3)) (ht : (pc : Int) + off = (tgt : Int)) (hr : inR x ∧ inR y) (hh : (x ≤ y → Fr g e k φ tgt ls st d) ∧ (y < x → Fr g e k φ (pc + 3) ls st d)) : Fr g e k φ pc ls (zI y :: zI x :: st) d := z_icmp_le hd ht hr ⟨hh.1, fun q => hh.2 (Int.not_le.mp q)⟩
end
def M_X0_init : zMk := (yX0_init, cX0_init, 1, none, 1, 20)
def M_X0_seekFrom : zMk := (yX0_seekFrom, cX0_seekFrom, 8, (some .boolean), 3, 67)
def M_X0_seekNumbered : zMk := (yX0_seekNumbered, cX0_seekNumbered, 5, (some .boolean), 4, 94)
def M_X0_endOfRow : zMk := (yX0_endOfRow, cX0_endOfRow, 4, (some .int), 2, 44)
def M_X1_init : zMk := (yX1_init, cX1_init, 1, none, 2, 43)
def M_X1_clear : zMk := (yX1_clear, cX1_clear, 1, none, 1, 23)
def M_X1_copyFrom : zMk := (yX1_copyFrom, cX1_copyFrom, 2, none, 1, 68)
def M_X1_length : zMk := (yX1_length, cX1_length, 1, (some .int), 0, 0)
def M_X1_append : zMk := (yX1_append, cX1_append, 2, (some .boolean), 1, 20)
def M_X1_cellOf : zMk := (yX1_cellOf, cX1_cellOf, 2, (some .int), 0, 0)
def M_X1_numberOf : zMk := (yX1_numberOf, cX1_numberOf, 2, (some .int), 1, 20)
def M_X1_numberBeside : zMk := (yX1_numberBeside, cX1_numberBeside, 3, (some .int), 2, 41)
def M_X1_nextBeside : zMk := (yX1_nextBeside, cX1_nextBeside, 6, (some .int), 3, 63)
def M_X1_wayFrom : zMk := (yX1_wayFrom, cX1_wayFrom, 4, (some .int), 1, 21)
def M_X1_winding : zMk := (yX1_winding, cX1_winding, 4, (some .int), 1, 21)
def M_X1_bulge : zMk := (yX1_bulge, cX1_bulge, 5, none, 2, 45)
def M_X1_shorten : zMk := (yX1_shorten, cX1_shorten, 5, none, 2, 45)
def M_X1_leaveBetween : zMk := (yX1_leaveBetween, cX1_leaveBetween, 5, none, 1, 21)
def M_X1_numberAgain : zMk := (yX1_numberAgain, cX1_numberAgain, 4, none, 1, 21)
def M_X2_init : zMk := (yX2_init, cX2_init, 2, none, 4, 89)
def M_X2_length : zMk := (yX2_length, cX2_length, 1, (some .int), 0, 0)
def M_X2_remember : zMk := (yX2_remember, cX2_remember, 3, none, 3, 110)
def M_X2_takeBack : zMk := (yX2_takeBack, cX2_takeBack, 3, (some .boolean), 3, 110)
def M_X3_init : zMk := (yX3_init, cX3_init, 1, none, 1, 20)
def M_X3_seekNumbered : zMk := (yX3_seekNumbered, cX3_seekNumbered, 7, (some .boolean), 4, 88)
def M_X3_seekWidest : zMk := (yX3_seekWidest, cX3_seekWidest, 8, (some .boolean), 3, 69)
def M_X4_init : zMk := (yX4_init, cX4_init, 1, none, 2, 43)
def M_X4_clear : zMk := (yX4_clear, cX4_clear, 1, none, 1, 23)
def M_X4_copyFrom : zMk := (yX4_copyFrom, cX4_copyFrom, 2, none, 1, 68)
def M_X4_length : zMk := (yX4_length, cX4_length, 1, (some .int), 0, 0)
def M_X4_has : zMk := (yX4_has, cX4_has, 2, (some .boolean), 0, 0)
def M_X4_ownerOf : zMk := (yX4_ownerOf, cX4_ownerOf, 2, (some .int), 1, 20)
def M_X4_sizeOf : zMk := (yX4_sizeOf, cX4_sizeOf, 2, (some .int), 1, 21)
def M_X4_yearsOf : zMk := (yX4_yearsOf, cX4_yearsOf, 2, (some .int), 1, 21)
def M_X4_firstCellOf : zMk := (yX4_firstCellOf, cX4_firstCellOf, 2, (some .int), 1, 21)
def M_X4_take : zMk := (yX4_take, cX4_take, 6, none, 2, 43)
def M_X4_drop : zMk := (yX4_drop, cX4_drop, 3, none, 1, 21)
def M_X4_passYear : zMk := (yX4_passYear, cX4_passYear, 3, none, 2, 43)
def M_X5_init : zMk := (yX5_init, cX5_init, 1, none, 1, 20)
def M_X5_length : zMk := (yX5_length, cX5_length, 1, (some .int), 0, 0)
def M_X5_stepCount : zMk := (yX5_stepCount, cX5_stepCount, 1, (some .int), 0, 0)
def M_X5_clear : zMk := (yX5_clear, cX5_clear, 1, none, 0, 0)
def M_X5_sizeOf : zMk := (yX5_sizeOf, cX5_sizeOf, 6, (some .int), 0, 0)
def M_X5_hasRoomFor : zMk := (yX5_hasRoomFor, cX5_hasRoomFor, 2, (some .boolean), 0, 0)
def M_X5_append : zMk := (yX5_append, cX5_append, 7, none, 0, 0)
def M_X5_scan : zMk := (yX5_scan, cX5_scan, 1, (some .int), 3, 67)
def M_X5_scanNumber : zMk := (yX5_scanNumber, cX5_scanNumber, 5, (some .int), 2, 43)
def M_X5_scanSteps : zMk := (yX5_scanSteps, cX5_scanSteps, 3, (some .boolean), 2, 43)
def M_X5_addSteps : zMk := (yX5_addSteps, cX5_addSteps, 4, none, 0, 0)
def M_X5_signAt : zMk := (yX5_signAt, cX5_signAt, 2, (some .int), 0, 0)
def M_X5_digitAt : zMk := (yX5_digitAt, cX5_digitAt, 3, (some .int), 1, 21)
def M_X5_wayAt : zMk := (yX5_wayAt, cX5_wayAt, 2, (some .int), 1, 21)
def M_X5_layCourse : zMk := (yX5_layCourse, cX5_layCourse, 5, (some .boolean), 2, 41)
def M_X6_init : zMk := (yX6_init, cX6_init, 1, none, 2, 40)
def M_X6_watch : zMk := (yX6_watch, cX6_watch, 2, none, 0, 0)
def M_X6_passYear : zMk := (yX6_passYear, cX6_passYear, 3, none, 5, 121)
def M_X6_wearBanks : zMk := (yX6_wearBanks, cX6_wearBanks, 6, none, 4, 94)
def M_X6_growBends : zMk := (yX6_growBends, cX6_growBends, 4, none, 4, 94)
def M_X6_noteTaken : zMk := (yX6_noteTaken, cX6_noteTaken, 3, none, 2, 43)
def M_X6_cutNecks : zMk := (yX6_cutNecks, cX6_cutNecks, 6, none, 4, 96)
def M_X7_init : zMk := (yX7_init, cX7_init, 2, none, 3, 68)
def M_X7_copyFrom : zMk := (yX7_copyFrom, cX7_copyFrom, 2, none, 2, 89)
def M_X7_clearAllButSettings : zMk := (yX7_clearAllButSettings, cX7_clearAllButSettings, 1, none, 2, 43)
def M_X7_setting : zMk := (yX7_setting, cX7_setting, 2, (some .int), 0, 0)
def M_X7_changeSetting : zMk := (yX7_changeSetting, cX7_changeSetting, 3, none, 0, 0)
def M_X7_isDike : zMk := (yX7_isDike, cX7_isDike, 2, (some .boolean), 1, 20)
def M_X7_changeDike : zMk := (yX7_changeDike, cX7_changeDike, 3, none, 1, 20)
def M_X7_dikeCount : zMk := (yX7_dikeCount, cX7_dikeCount, 3, (some .int), 0, 0)
def M_X7_hasFlood : zMk := (yX7_hasFlood, cX7_hasFlood, 3, (some .boolean), 0, 0)
def M_X7_changeFlood : zMk := (yX7_changeFlood, cX7_changeFlood, 3, none, 1, 23)
def M_X7_addFlood : zMk := (yX7_addFlood, cX7_addFlood, 2, none, 0, 0)
def M_X7_removeFlood : zMk := (yX7_removeFlood, cX7_removeFlood, 4, none, 0, 0)
def M_X7_wearOf : zMk := (yX7_wearOf, cX7_wearOf, 2, (some .int), 1, 20)
def M_X7_wearSum : zMk := (yX7_wearSum, cX7_wearSum, 3, (some .int), 0, 0)
def M_X7_bankCell : zMk := (yX7_bankCell, cX7_bankCell, 3, (some .int), 1, 21)
def M_X7_isFirm : zMk := (yX7_isFirm, cX7_isFirm, 4, (some .boolean), 2, 43)
def M_X7_leastWear : zMk := (yX7_leastWear, cX7_leastWear, 4, (some .int), 2, 43)
def M_X7_canGrow : zMk := (yX7_canGrow, cX7_canGrow, 2, (some .boolean), 3, 66)
def M_X7_wearBank : zMk := (yX7_wearBank, cX7_wearBank, 6, none, 2, 43)
def M_X7_growBend : zMk := (yX7_growBend, cX7_growBend, 4, none, 3, 69)
def M_X7_pairOf : zMk := (yX7_pairOf, cX7_pairOf, 6, (some .int), 1, 21)
def M_X7_ageOf : zMk := (yX7_ageOf, cX7_ageOf, 4, (some .int), 2, 46)
def M_X7_agePairs : zMk := (yX7_agePairs, cX7_agePairs, 5, none, 3, 68)
def M_X7_cutBetween : zMk := (yX7_cutBetween, cX7_cutBetween, 3, none, 3, 69)
def M_X8_init : zMk := (yX8_init, cX8_init, 2, none, 5, 110)
def M_X8_set : zMk := (yX8_set, cX8_set, 4, (some .int), 4, 132)
def M_X8_read : zMk := (yX8_read, cX8_read, 1, (some .int), 4, 132)
def M_X8_dike : zMk := (yX8_dike, cX8_dike, 5, (some .int), 4, 132)
def M_X8_flood : zMk := (yX8_flood, cX8_flood, 3, (some .int), 4, 132)
def M_X8_cut : zMk := (yX8_cut, cX8_cut, 2, (some .int), 5, 132)
def M_X8_pass : zMk := (yX8_pass, cX8_pass, 4, (some .int), 6, 143)
def M_X8_cell : zMk := (yX8_cell, cX8_cell, 5, (some .int), 2, 41)
def M_X8_course : zMk := (yX8_course, cX8_course, 4, (some .int), 2, 44)
def M_X8_bend : zMk := (yX8_bend, cX8_bend, 3, (some .int), 5, 118)
def M_X8_neck : zMk := (yX8_neck, cX8_neck, 3, (some .int), 5, 114)
def M_X8_oxbow : zMk := (yX8_oxbow, cX8_oxbow, 3, (some .int), 2, 42)
def M_X8_count : zMk := (yX8_count, cX8_count, 2, (some .int), 5, 118)
def M_X8_isFlood : zMk := (yX8_isFlood, cX8_isFlood, 2, (some .int), 1, 22)
def M_X8_ifPassed : zMk := (yX8_ifPassed, cX8_ifPassed, 4, (some .int), 6, 143)
def M_X8_nextCut : zMk := (yX8_nextCut, cX8_nextCut, 3, (some .int), 6, 143)
def M_X8_taken : zMk := (yX8_taken, cX8_taken, 5, (some .int), 6, 143)
def M_X8_put : zMk := (yX8_put, cX8_put, 4, (some .int), 1, 26)
def M_X8_wipe : zMk := (yX8_wipe, cX8_wipe, 2, (some .int), 1, 20)
def M_X8_fault : zMk := (yX8_fault, cX8_fault, 1, (some .int), 4, 87)
def M_X8_undo : zMk := (yX8_undo, cX8_undo, 1, (some .int), 4, 132)
def M_X8_save : zMk := (yX8_save, cX8_save, 2, (some .int), 3, 110)
def M_X8_restore : zMk := (yX8_restore, cX8_restore, 2, (some .int), 4, 132)
def M_X8_countBends : zMk := (yX8_countBends, cX8_countBends, 5, (some .int), 4, 94)
def M_X8_countNecks : zMk := (yX8_countNecks, cX8_countNecks, 4, (some .int), 3, 63)
def M_X8_orNone : zMk := (yX8_orNone, cX8_orNone, 1, (some .int), 0, 0)
def M_X8_asNumber : zMk := (yX8_asNumber, cX8_asNumber, 1, (some .int), 0, 0)
def M_X8_cellAt : zMk := (yX8_cellAt, cX8_cellAt, 2, (some .int), 0, 0)
def M_X8_isOnLand : zMk := (yX8_isOnLand, cX8_isOnLand, 1, (some .boolean), 0, 0)
def M_X8_beside : zMk := (yX8_beside, cX8_beside, 2, (some .int), 0, 0)
def M_X8_areOpposite : zMk := (yX8_areOpposite, cX8_areOpposite, 2, (some .boolean), 1, 21)
def M_X9_init : zMk := (yX9_init, cX9_init, 2, none, 1, 21)
def M_X9_begin : zMk := (yX9_begin, cX9_begin, 2, none, 0, 0)
def M_X9_in : zMk := (yX9_in, cX9_in, 3, (some .boolean), 0, 0)
def M_X9_isCell : zMk := (yX9_isCell, cX9_isCell, 2, (some .boolean), 1, 22)
def M_X9_know : zMk := (yX9_know, cX9_know, 2, none, 0, 0)
def M_X9_putAside : zMk := (yX9_putAside, cX9_putAside, 2, none, 0, 0)
def M_X9_putBack : zMk := (yX9_putBack, cX9_putBack, 2, none, 0, 0)
def M_X9_stepped : zMk := (yX9_stepped, cX9_stepped, 4, (some .int), 2, 43)
def M_X9_way : zMk := (yX9_way, cX9_way, 3, (some .int), 0, 0)
def M_X9_numberOf : zMk := (yX9_numberOf, cX9_numberOf, 4, (some .int), 0, 0)
def M_X9_findBends : zMk := (yX9_findBends, cX9_findBends, 3, none, 1, 22)
def M_X9_wayOf : zMk := (yX9_wayOf, cX9_wayOf, 2, (some .int), 1, 22)
def M_X9_bank : zMk := (yX9_bank, cX9_bank, 3, (some .int), 3, 66)
def M_X9_isFirm : zMk := (yX9_isFirm, cX9_isFirm, 5, (some .boolean), 4, 88)
def M_X9_leastWear : zMk := (yX9_leastWear, cX9_leastWear, 5, (some .int), 4, 88)
def M_X9_canGrow : zMk := (yX9_canGrow, cX9_canGrow, 2, (some .boolean), 5, 112)
def M_X9_dropOxbow : zMk := (yX9_dropOxbow, cX9_dropOxbow, 4, none, 0, 0)
def M_X9_grow : zMk := (yX9_grow, cX9_grow, 6, (some .int), 4, 88)
def M_X9_pair : zMk := (yX9_pair, cX9_pair, 4, (some .int), 0, 0)
def M_X9_areNeighbours : zMk := (yX9_areNeighbours, cX9_areNeighbours, 4, (some .boolean), 0, 0)
def M_X9_findNeck : zMk := (yX9_findNeck, cX9_findNeck, 8, (some .boolean), 1, 23)
def M_X9_cutNeck : zMk := (yX9_cutNeck, cX9_cutNeck, 4, none, 1, 23)
def M_X9_isFloodYear : zMk := (yX9_isFloodYear, cX9_isFloodYear, 4, (some .boolean), 0, 0)
def M_X9_wear : zMk := (yX9_wear, cX9_wear, 6, none, 5, 112)
def M_X9_growAll : zMk := (yX9_growAll, cX9_growAll, 4, none, 6, 133)
def M_X9_age : zMk := (yX9_age, cX9_age, 3, none, 1, 23)
def M_X9_goOn : zMk := (yX9_goOn, cX9_goOn, 4, (some .int), 7, 156)
def M_X9_set : zMk := (yX9_set, cX9_set, 5, (some .int), 1, 22)
def M_X9_dikes : zMk := (yX9_dikes, cX9_dikes, 3, (some .int), 0, 0)
def M_X9_dike : zMk := (yX9_dike, cX9_dike, 5, (some .int), 2, 43)
def M_X9_flood : zMk := (yX9_flood, cX9_flood, 5, (some .int), 1, 23)
def M_X9_cut : zMk := (yX9_cut, cX9_cut, 2, (some .int), 2, 50)
def M_X9_pass : zMk := (yX9_pass, cX9_pass, 5, (some .int), 8, 179)
def M_X9_cell : zMk := (yX9_cell, cX9_cell, 5, (some .int), 2, 43)
def M_X9_course : zMk := (yX9_course, cX9_course, 3, (some .int), 1, 22)
def M_X9_bend : zMk := (yX9_bend, cX9_bend, 3, (some .int), 6, 133)
def M_X9_neck : zMk := (yX9_neck, cX9_neck, 3, (some .int), 2, 50)
def M_X9_oxbow : zMk := (yX9_oxbow, cX9_oxbow, 4, (some .int), 1, 22)
def M_X9_firm : zMk := (yX9_firm, cX9_firm, 3, (some .int), 5, 112)
def M_X9_apart : zMk := (yX9_apart, cX9_apart, 2, (some .int), 0, 0)
def M_X9_winding : zMk := (yX9_winding, cX9_winding, 3, (some .int), 1, 21)
def M_X9_allWear : zMk := (yX9_allWear, cX9_allWear, 3, (some .int), 0, 0)
def M_X9_allNecks : zMk := (yX9_allNecks, cX9_allNecks, 2, (some .int), 2, 50)
def M_X9_count : zMk := (yX9_count, cX9_count, 2, (some .int), 6, 134)
def M_X9_isFlood : zMk := (yX9_isFlood, cX9_isFlood, 2, (some .int), 1, 23)
def M_X9_ifPassed : zMk := (yX9_ifPassed, cX9_ifPassed, 5, (some .int), 8, 179)
def M_X9_nextCut : zMk := (yX9_nextCut, cX9_nextCut, 5, (some .int), 8, 179)
def M_X9_taken : zMk := (yX9_taken, cX9_taken, 7, (some .int), 8, 179)
def M_X9_put : zMk := (yX9_put, cX9_put, 8, (some .int), 1, 22)
def M_X9_wipe : zMk := (yX9_wipe, cX9_wipe, 2, (some .int), 0, 0)
def M_X9_sign : zMk := (yX9_sign, cX9_sign, 4, (some .int), 1, 22)
def M_X9_isNext : zMk := (yX9_isNext, cX9_isNext, 3, (some .boolean), 1, 22)
def M_X9_number : zMk := (yX9_number, cX9_number, 4, (some .int), 2, 45)
def M_X9_tell : zMk := (yX9_tell, cX9_tell, 3, none, 0, 0)
def M_X9_readPad : zMk := (yX9_readPad, cX9_readPad, 10, none, 3, 68)
def M_X9_fault : zMk := (yX9_fault, cX9_fault, 1, (some .int), 4, 97)
def M_X9_read : zMk := (yX9_read, cX9_read, 2, (some .int), 4, 97)
def M_X9_undo : zMk := (yX9_undo, cX9_undo, 2, (some .int), 0, 0)
def M_X9_save : zMk := (yX9_save, cX9_save, 3, (some .int), 1, 22)
def M_X9_restore : zMk := (yX9_restore, cX9_restore, 3, (some .int), 1, 22)
def M_J7_fill_53178 : zMk := (yJ7_fill_53178, cJ7_fill_53178, 4, none, 0, 0)
def M_L_law : zMk := (yL_law, cL_law, 4, (some .boolean), 9, 205)
theorem ok_X0_init : zok M_X0_init 0 := ⟨inGW 58 (by decide +kernel) rfl, inGW 247 (by decide +kernel) rfl, by decide +kernel, by decide +kernel⟩
theorem okI_X0_init : Cond.instanceMethod (ky M_X0_init) ∈ GW := inGW 246 (by decide +kernel) rfl
theorem ok_X0_seekFrom : zok M_X0_seekFrom 2 := ⟨inGW 58 (by decide +kernel) rfl, inGW 542 (by decide +kernel) rfl, by decide +kernel, by decide +kernel⟩
theorem okV_X0_seekFrom : zokV M_X0_seekFrom := ⟨inGW 540 (by decide +kernel) rfl, inGW 541 (by decide +kernel) rfl⟩
theorem ok_X0_seekNumbered : zok M_X0_seekNumbered 2 := ⟨inGW 58 (by decide +kernel) rfl, inGW 669 (by decide +kernel) rfl, by decide +kernel, by decide +kernel⟩
theorem okV_X0_seekNumbered : zokV M_X0_seekNumbered := ⟨inGW 667 (by decide +kernel) rfl, inGW 668 (by decide +kernel) rfl⟩
theorem ok_X0_endOfRow : zok M_X0_endOfRow 3 := ⟨inGW 58 (by decide +kernel) rfl, inGW 553 (by decide +kernel) rfl, by decide +kernel, by decide +kernel⟩
theorem okS_X0_endOfRow : Cond.static (ky M_X0_endOfRow) ∈ GW := inGW 552 (by decide +kernel) rfl
theorem ok_X1_init : zok M_X1_init 0 := ⟨inGW 51 (by decide +kernel) rfl, inGW 82 (by decide +kernel) rfl, by decide +kernel, by decide +kernel⟩
theorem okI_X1_init : Cond.instanceMethod (ky M_X1_init) ∈ GW := inGW 81 (by decide +kernel) rfl
theorem ok_X1_clear : zok M_X1_clear 0 := ⟨inGW 51 (by decide +kernel) rfl, inGW 87 (by decide +kernel) rfl, by decide +kernel, by decide +kernel⟩
theorem okV_X1_clear : zokV M_X1_clear := ⟨inGW 85 (by decide +kernel) rfl, inGW 86 (by decide +kernel) rfl⟩
theorem ok_X1_copyFrom : zok M_X1_copyFrom 1 := ⟨inGW 51 (by decide +kernel) rfl, inGW 351 (by decide +kernel) rfl, by decide +kernel, by decide +kernel⟩
theorem okV_X1_copyFrom : zokV M_X1_copyFrom := ⟨inGW 349 (by decide +kernel) rfl, inGW 350 (by decide +kernel) rfl⟩
theorem ok_X1_length : zok M_X1_length 0 := ⟨inGW 51 (by decide +kernel) rfl, inGW 426 (by decide +kernel) rfl, by decide +kernel, by decide +kernel⟩
theorem okV_X1_length : zokV M_X1_length := ⟨inGW 424 (by decide +kernel) rfl, inGW 425 (by decide +kernel) rfl⟩
theorem ok_X1_append : zok M_X1_append 1 := ⟨inGW 51 (by decide +kernel) rfl, inGW 138 (by decide +kernel) rfl, by decide +kernel, by decide +kernel⟩
theorem okV_X1_append : zokV M_X1_append := ⟨inGW 136 (by decide +kernel) rfl, inGW 137 (by decide +kernel) rfl⟩
theorem ok_X1_cellOf : zok M_X1_cellOf 1 := ⟨inGW 51 (by decide +kernel) rfl, inGW 492 (by decide +kernel) rfl, by decide +kernel, by decide +kernel⟩
theorem okV_X1_cellOf : zokV M_X1_cellOf := ⟨inGW 490 (by decide +kernel) rfl, inGW 491 (by decide +kernel) rfl⟩
theorem ok_X1_numberOf : zok M_X1_numberOf 1 := ⟨inGW 51 (by decide +kernel) rfl, inGW 435 (by decide +kernel) rfl, by decide +kernel, by decide +kernel⟩
theorem okV_X1_numberOf : zokV M_X1_numberOf := ⟨inGW 433 (by decide +kernel) rfl, inGW 434 (by decide +kernel) rfl⟩
theorem ok_X1_numberBeside : zok M_X1_numberBeside 2 := ⟨inGW 51 (by decide +kernel) rfl, inGW 488 (by decide +kernel) rfl, by decide +kernel, by decide +kernel⟩
theorem okV_X1_numberBeside : zokV M_X1_numberBeside := ⟨inGW 486 (by decide +kernel) rfl, inGW 487 (by decide +kernel) rfl⟩
theorem ok_X1_nextBeside : zok M_X1_nextBeside 2 := ⟨inGW 51 (by decide +kernel) rfl, inGW 484 (by decide +kernel) rfl, by decide +kernel, by decide +kernel⟩
theorem okV_X1_nextBeside : zokV M_X1_nextBeside := ⟨inGW 482 (by decide +kernel) rfl, inGW 483 (by decide +kernel) rfl⟩
theorem ok_X1_wayFrom : zok M_X1_wayFrom 1 := ⟨inGW 51 (by decide +kernel) rfl, inGW 550 (by decide +kernel) rfl, by decide +kernel, by decide +kernel⟩
theorem okV_X1_wayFrom : zokV M_X1_wayFrom := ⟨inGW 548 (by decide +kernel) rfl, inGW 549 (by decide +kernel) rfl⟩
theorem ok_X1_winding : zok M_X1_winding 0 := ⟨inGW 51 (by decide +kernel) rfl, inGW 717 (by decide +kernel) rfl, by decide +kernel, by decide +kernel⟩
theorem okV_X1_winding : zokV M_X1_winding := ⟨inGW 715 (by decide +kernel) rfl, inGW 716 (by decide +kernel) rfl⟩
theorem ok_X1_bulge : zok M_X1_bulge 3 := ⟨inGW 51 (by decide +kernel) rfl, inGW 615 (by decide +kernel) rfl, by decide +kernel, by decide +kernel⟩
theorem okV_X1_bulge : zokV M_X1_bulge := ⟨inGW 613 (by decide +kernel) rfl, inGW 614 (by decide +kernel) rfl⟩
theorem ok_X1_shorten : zok M_X1_shorten 2 := ⟨inGW 51 (by decide +kernel) rfl, inGW 516 (by decide +kernel) rfl, by decide +kernel, by decide +kernel⟩
theorem okV_X1_shorten : zokV M_X1_shorten := ⟨inGW 514 (by decide +kernel) rfl, inGW 515 (by decide +kernel) rfl⟩
theorem ok_X1_leaveBetween : zok M_X1_leaveBetween 2 := ⟨inGW 51 (by decide +kernel) rfl, inGW 520 (by decide +kernel) rfl, by decide +kernel, by decide +kernel⟩
theorem okV_X1_leaveBetween : zokV M_X1_leaveBetween := ⟨inGW 519 (by decide +kernel) rfl, inGW 8 (by decide +kernel) rfl⟩
theorem ok_X1_numberAgain : zok M_X1_numberAgain 1 := ⟨inGW 51 (by decide +kernel) rfl, inGW 524 (by decide +kernel) rfl, by decide +kernel, by decide +kernel⟩
theorem okV_X1_numberAgain : zokV M_X1_numberAgain := ⟨inGW 523 (by decide +kernel) rfl, inGW 9 (by decide +kernel) rfl⟩
theorem ok_X2_init : zok M_X2_init 0 := ⟨inGW 55 (by decide +kernel) rfl, inGW 194 (by decide +kernel) rfl, by decide +kernel, by decide +kernel⟩
theorem okI_X2_init : Cond.instanceMethod (ky M_X2_init) ∈ GW := inGW 193 (by decide +kernel) rfl
theorem ok_X2_length : zok M_X2_length 0 := ⟨inGW 55 (by decide +kernel) rfl, inGW 730 (by decide +kernel) rfl, by decide +kernel, by decide +kernel⟩
theorem okV_X2_length : zokV M_X2_length := ⟨inGW 728 (by decide +kernel) rfl, inGW 729 (by decide +kernel) rfl⟩
theorem ok_X2_remember : zok M_X2_remember 1 := ⟨inGW 55 (by decide +kernel) rfl, inGW 343 (by decide +kernel) rfl, by decide +kernel, by decide +kernel⟩
theorem okV_X2_remember : zokV M_X2_remember := ⟨inGW 341 (by decide +kernel) rfl, inGW 342 (by decide +kernel) rfl⟩
theorem ok_X2_takeBack : zok M_X2_takeBack 1 := ⟨inGW 55 (by decide +kernel) rfl, inGW 782 (by decide +kernel) rfl, by decide +kernel, by decide +kernel⟩
theorem okV_X2_takeBack : zokV M_X2_takeBack := ⟨inGW 780 (by decide +kernel) rfl, inGW 781 (by decide +kernel) rfl⟩
theorem ok_X3_init : zok M_X3_init 0 := ⟨inGW 59 (by decide +kernel) rfl, inGW 271 (by decide +kernel) rfl, by decide +kernel, by decide +kernel⟩
theorem okI_X3_init : Cond.instanceMethod (ky M_X3_init) ∈ GW := inGW 270 (by decide +kernel) rfl
theorem ok_X3_seekNumbered : zok M_X3_seekNumbered 2 := ⟨inGW 59 (by decide +kernel) rfl, inGW 479 (by decide +kernel) rfl, by decide +kernel, by decide +kernel⟩
theorem okV_X3_seekNumbered : zokV M_X3_seekNumbered := ⟨inGW 477 (by decide +kernel) rfl, inGW 478 (by decide +kernel) rfl⟩
theorem ok_X3_seekWidest : zok M_X3_seekWidest 2 := ⟨inGW 59 (by decide +kernel) rfl, inGW 634 (by decide +kernel) rfl, by decide +kernel, by decide +kernel⟩
theorem okV_X3_seekWidest : zokV M_X3_seekWidest := ⟨inGW 632 (by decide +kernel) rfl, inGW 633 (by decide +kernel) rfl⟩
theorem ok_X4_init : zok M_X4_init 0 := ⟨inGW 53 (by decide +kernel) rfl, inGW 106 (by decide +kernel) rfl, by decide +kernel, by decide +kernel⟩
theorem okI_X4_init : Cond.instanceMethod (ky M_X4_init) ∈ GW := inGW 105 (by decide +kernel) rfl
theorem ok_X4_clear : zok M_X4_clear 0 := ⟨inGW 53 (by decide +kernel) rfl, inGW 111 (by decide +kernel) rfl, by decide +kernel, by decide +kernel⟩
theorem okV_X4_clear : zokV M_X4_clear := ⟨inGW 109 (by decide +kernel) rfl, inGW 110 (by decide +kernel) rfl⟩
theorem ok_X4_copyFrom : zok M_X4_copyFrom 1 := ⟨inGW 53 (by decide +kernel) rfl, inGW 356 (by decide +kernel) rfl, by decide +kernel, by decide +kernel⟩
theorem okV_X4_copyFrom : zokV M_X4_copyFrom := ⟨inGW 354 (by decide +kernel) rfl, inGW 355 (by decide +kernel) rfl⟩
theorem ok_X4_length : zok M_X4_length 0 := ⟨inGW 53 (by decide +kernel) rfl, inGW 713 (by decide +kernel) rfl, by decide +kernel, by decide +kernel⟩
theorem okV_X4_length : zokV M_X4_length := ⟨inGW 711 (by decide +kernel) rfl, inGW 712 (by decide +kernel) rfl⟩
theorem ok_X4_has : zok M_X4_has 1 := ⟨inGW 53 (by decide +kernel) rfl, inGW 510 (by decide +kernel) rfl, by decide +kernel, by decide +kernel⟩
theorem okV_X4_has : zokV M_X4_has := ⟨inGW 508 (by decide +kernel) rfl, inGW 509 (by decide +kernel) rfl⟩
theorem ok_X4_ownerOf : zok M_X4_ownerOf 1 := ⟨inGW 53 (by decide +kernel) rfl, inGW 579 (by decide +kernel) rfl, by decide +kernel, by decide +kernel⟩
theorem okV_X4_ownerOf : zokV M_X4_ownerOf := ⟨inGW 577 (by decide +kernel) rfl, inGW 578 (by decide +kernel) rfl⟩
theorem ok_X4_sizeOf : zok M_X4_sizeOf 1 := ⟨inGW 53 (by decide +kernel) rfl, inGW 687 (by decide +kernel) rfl, by decide +kernel, by decide +kernel⟩
theorem okV_X4_sizeOf : zokV M_X4_sizeOf := ⟨inGW 685 (by decide +kernel) rfl, inGW 686 (by decide +kernel) rfl⟩
theorem ok_X4_yearsOf : zok M_X4_yearsOf 1 := ⟨inGW 53 (by decide +kernel) rfl, inGW 691 (by decide +kernel) rfl, by decide +kernel, by decide +kernel⟩
theorem okV_X4_yearsOf : zokV M_X4_yearsOf := ⟨inGW 689 (by decide +kernel) rfl, inGW 690 (by decide +kernel) rfl⟩
theorem ok_X4_firstCellOf : zok M_X4_firstCellOf 1 := ⟨inGW 53 (by decide +kernel) rfl, inGW 695 (by decide +kernel) rfl, by decide +kernel, by decide +kernel⟩
theorem okV_X4_firstCellOf : zokV M_X4_firstCellOf := ⟨inGW 693 (by decide +kernel) rfl, inGW 694 (by decide +kernel) rfl⟩
theorem ok_X4_take : zok M_X4_take 3 := ⟨inGW 53 (by decide +kernel) rfl, inGW 502 (by decide +kernel) rfl, by decide +kernel, by decide +kernel⟩
theorem okV_X4_take : zokV M_X4_take := ⟨inGW 500 (by decide +kernel) rfl, inGW 501 (by decide +kernel) rfl⟩
theorem ok_X4_drop : zok M_X4_drop 1 := ⟨inGW 53 (by decide +kernel) rfl, inGW 506 (by decide +kernel) rfl, by decide +kernel, by decide +kernel⟩
theorem okV_X4_drop : zokV M_X4_drop := ⟨inGW 504 (by decide +kernel) rfl, inGW 505 (by decide +kernel) rfl⟩
theorem ok_X4_passYear : zok M_X4_passYear 1 := ⟨inGW 53 (by decide +kernel) rfl, inGW 644 (by decide +kernel) rfl, by decide +kernel, by decide +kernel⟩
theorem okV_X4_passYear : zokV M_X4_passYear := ⟨inGW 642 (by decide +kernel) rfl, inGW 643 (by decide +kernel) rfl⟩
theorem ok_X5_init : zok M_X5_init 0 := ⟨inGW 56 (by decide +kernel) rfl, inGW 213 (by decide +kernel) rfl, by decide +kernel, by decide +kernel⟩
theorem okI_X5_init : Cond.instanceMethod (ky M_X5_init) ∈ GW := inGW 212 (by decide +kernel) rfl
theorem ok_X5_length : zok M_X5_length 0 := ⟨inGW 56 (by decide +kernel) rfl, inGW 726 (by decide +kernel) rfl, by decide +kernel, by decide +kernel⟩
theorem okV_X5_length : zokV M_X5_length := ⟨inGW 724 (by decide +kernel) rfl, inGW 725 (by decide +kernel) rfl⟩
theorem ok_X5_stepCount : zok M_X5_stepCount 0 := ⟨inGW 56 (by decide +kernel) rfl, inGW 401 (by decide +kernel) rfl, by decide +kernel, by decide +kernel⟩
theorem okV_X5_stepCount : zokV M_X5_stepCount := ⟨inGW 399 (by decide +kernel) rfl, inGW 400 (by decide +kernel) rfl⟩
theorem ok_X5_clear : zok M_X5_clear 0 := ⟨inGW 56 (by decide +kernel) rfl, inGW 422 (by decide +kernel) rfl, by decide +kernel, by decide +kernel⟩
theorem okV_X5_clear : zokV M_X5_clear := ⟨inGW 420 (by decide +kernel) rfl, inGW 421 (by decide +kernel) rfl⟩
theorem ok_X5_sizeOf : zok M_X5_sizeOf 1 := ⟨inGW 56 (by decide +kernel) rfl, inGW 757 (by decide +kernel) rfl, by decide +kernel, by decide +kernel⟩
theorem okS_X5_sizeOf : Cond.static (ky M_X5_sizeOf) ∈ GW := inGW 756 (by decide +kernel) rfl
theorem ok_X5_hasRoomFor : zok M_X5_hasRoomFor 1 := ⟨inGW 56 (by decide +kernel) rfl, inGW 762 (by decide +kernel) rfl, by decide +kernel, by decide +kernel⟩
theorem okV_X5_hasRoomFor : zokV M_X5_hasRoomFor := ⟨inGW 760 (by decide +kernel) rfl, inGW 761 (by decide +kernel) rfl⟩
theorem ok_X5_append : zok M_X5_append 2 := ⟨inGW 56 (by decide +kernel) rfl, inGW 766 (by decide +kernel) rfl, by decide +kernel, by decide +kernel⟩
theorem okV_X5_append : zokV M_X5_append := ⟨inGW 764 (by decide +kernel) rfl, inGW 765 (by decide +kernel) rfl⟩
theorem ok_X5_scan : zok M_X5_scan 0 := ⟨inGW 56 (by decide +kernel) rfl, inGW 373 (by decide +kernel) rfl, by decide +kernel, by decide +kernel⟩
theorem okV_X5_scan : zokV M_X5_scan := ⟨inGW 371 (by decide +kernel) rfl, inGW 372 (by decide +kernel) rfl⟩
theorem ok_X5_scanNumber : zok M_X5_scanNumber 2 := ⟨inGW 56 (by decide +kernel) rfl, inGW 377 (by decide +kernel) rfl, by decide +kernel, by decide +kernel⟩
theorem okV_X5_scanNumber : zokV M_X5_scanNumber := ⟨inGW 376 (by decide +kernel) rfl, inGW 0 (by decide +kernel) rfl⟩
theorem ok_X5_scanSteps : zok M_X5_scanSteps 0 := ⟨inGW 56 (by decide +kernel) rfl, inGW 389 (by decide +kernel) rfl, by decide +kernel, by decide +kernel⟩
theorem okV_X5_scanSteps : zokV M_X5_scanSteps := ⟨inGW 388 (by decide +kernel) rfl, inGW 3 (by decide +kernel) rfl⟩
theorem ok_X5_addSteps : zok M_X5_addSteps 2 := ⟨inGW 56 (by decide +kernel) rfl, inGW 397 (by decide +kernel) rfl, by decide +kernel, by decide +kernel⟩
theorem okV_X5_addSteps : zokV M_X5_addSteps := ⟨inGW 396 (by decide +kernel) rfl, inGW 5 (by decide +kernel) rfl⟩
theorem ok_X5_signAt : zok M_X5_signAt 1 := ⟨inGW 56 (by decide +kernel) rfl, inGW 385 (by decide +kernel) rfl, by decide +kernel, by decide +kernel⟩
theorem okV_X5_signAt : zokV M_X5_signAt := ⟨inGW 384 (by decide +kernel) rfl, inGW 2 (by decide +kernel) rfl⟩
theorem ok_X5_digitAt : zok M_X5_digitAt 1 := ⟨inGW 56 (by decide +kernel) rfl, inGW 381 (by decide +kernel) rfl, by decide +kernel, by decide +kernel⟩
theorem okV_X5_digitAt : zokV M_X5_digitAt := ⟨inGW 380 (by decide +kernel) rfl, inGW 1 (by decide +kernel) rfl⟩
theorem ok_X5_wayAt : zok M_X5_wayAt 1 := ⟨inGW 56 (by decide +kernel) rfl, inGW 393 (by decide +kernel) rfl, by decide +kernel, by decide +kernel⟩
theorem okV_X5_wayAt : zokV M_X5_wayAt := ⟨inGW 392 (by decide +kernel) rfl, inGW 4 (by decide +kernel) rfl⟩
theorem ok_X5_layCourse : zok M_X5_layCourse 1 := ⟨inGW 56 (by decide +kernel) rfl, inGW 413 (by decide +kernel) rfl, by decide +kernel, by decide +kernel⟩
theorem okV_X5_layCourse : zokV M_X5_layCourse := ⟨inGW 411 (by decide +kernel) rfl, inGW 412 (by decide +kernel) rfl⟩
theorem ok_X6_init : zok M_X6_init 0 := ⟨inGW 57 (by decide +kernel) rfl, inGW 241 (by decide +kernel) rfl, by decide +kernel, by decide +kernel⟩
theorem okI_X6_init : Cond.instanceMethod (ky M_X6_init) ∈ GW := inGW 240 (by decide +kernel) rfl
theorem ok_X6_watch : zok M_X6_watch 1 := ⟨inGW 57 (by decide +kernel) rfl, inGW 750 (by decide +kernel) rfl, by decide +kernel, by decide +kernel⟩
theorem okV_X6_watch : zokV M_X6_watch := ⟨inGW 748 (by decide +kernel) rfl, inGW 749 (by decide +kernel) rfl⟩
theorem ok_X6_passYear : zok M_X6_passYear 1 := ⟨inGW 57 (by decide +kernel) rfl, inGW 532 (by decide +kernel) rfl, by decide +kernel, by decide +kernel⟩
theorem okV_X6_passYear : zokV M_X6_passYear := ⟨inGW 530 (by decide +kernel) rfl, inGW 531 (by decide +kernel) rfl⟩
theorem ok_X6_wearBanks : zok M_X6_wearBanks 2 := ⟨inGW 57 (by decide +kernel) rfl, inGW 537 (by decide +kernel) rfl, by decide +kernel, by decide +kernel⟩
theorem okV_X6_wearBanks : zokV M_X6_wearBanks := ⟨inGW 536 (by decide +kernel) rfl, inGW 10 (by decide +kernel) rfl⟩
theorem ok_X6_growBends : zok M_X6_growBends 1 := ⟨inGW 57 (by decide +kernel) rfl, inGW 586 (by decide +kernel) rfl, by decide +kernel, by decide +kernel⟩
theorem okV_X6_growBends : zokV M_X6_growBends := ⟨inGW 585 (by decide +kernel) rfl, inGW 11 (by decide +kernel) rfl⟩
theorem ok_X6_noteTaken : zok M_X6_noteTaken 1 := ⟨inGW 57 (by decide +kernel) rfl, inGW 605 (by decide +kernel) rfl, by decide +kernel, by decide +kernel⟩
theorem okV_X6_noteTaken : zokV M_X6_noteTaken := ⟨inGW 604 (by decide +kernel) rfl, inGW 12 (by decide +kernel) rfl⟩
theorem ok_X6_cutNecks : zok M_X6_cutNecks 2 := ⟨inGW 57 (by decide +kernel) rfl, inGW 629 (by decide +kernel) rfl, by decide +kernel, by decide +kernel⟩
theorem okV_X6_cutNecks : zokV M_X6_cutNecks := ⟨inGW 628 (by decide +kernel) rfl, inGW 14 (by decide +kernel) rfl⟩
theorem ok_X7_init : zok M_X7_init 0 := ⟨inGW 50 (by decide +kernel) rfl, inGW 74 (by decide +kernel) rfl, by decide +kernel, by decide +kernel⟩
theorem okI_X7_init : Cond.instanceMethod (ky M_X7_init) ∈ GW := inGW 73 (by decide +kernel) rfl
theorem ok_X7_copyFrom : zok M_X7_copyFrom 1 := ⟨inGW 50 (by decide +kernel) rfl, inGW 347 (by decide +kernel) rfl, by decide +kernel, by decide +kernel⟩
theorem okV_X7_copyFrom : zokV M_X7_copyFrom := ⟨inGW 345 (by decide +kernel) rfl, inGW 346 (by decide +kernel) rfl⟩
theorem ok_X7_clearAllButSettings : zok M_X7_clearAllButSettings 0 := ⟨inGW 50 (by decide +kernel) rfl, inGW 406 (by decide +kernel) rfl, by decide +kernel, by decide +kernel⟩
theorem okV_X7_clearAllButSettings : zokV M_X7_clearAllButSettings := ⟨inGW 404 (by decide +kernel) rfl, inGW 405 (by decide +kernel) rfl⟩
theorem ok_X7_setting : zok M_X7_setting 1 := ⟨inGW 50 (by decide +kernel) rfl, inGW 361 (by decide +kernel) rfl, by decide +kernel, by decide +kernel⟩
theorem okV_X7_setting : zokV M_X7_setting := ⟨inGW 359 (by decide +kernel) rfl, inGW 360 (by decide +kernel) rfl⟩
theorem ok_X7_changeSetting : zok M_X7_changeSetting 2 := ⟨inGW 50 (by decide +kernel) rfl, inGW 365 (by decide +kernel) rfl, by decide +kernel, by decide +kernel⟩
theorem okV_X7_changeSetting : zokV M_X7_changeSetting := ⟨inGW 363 (by decide +kernel) rfl, inGW 364 (by decide +kernel) rfl⟩
theorem ok_X7_isDike : zok M_X7_isDike 1 := ⟨inGW 50 (by decide +kernel) rfl, inGW 439 (by decide +kernel) rfl, by decide +kernel, by decide +kernel⟩
theorem okV_X7_isDike : zokV M_X7_isDike := ⟨inGW 437 (by decide +kernel) rfl, inGW 438 (by decide +kernel) rfl⟩
theorem ok_X7_changeDike : zok M_X7_changeDike 2 := ⟨inGW 50 (by decide +kernel) rfl, inGW 444 (by decide +kernel) rfl, by decide +kernel, by decide +kernel⟩
theorem okV_X7_changeDike : zokV M_X7_changeDike := ⟨inGW 442 (by decide +kernel) rfl, inGW 443 (by decide +kernel) rfl⟩
theorem ok_X7_dikeCount : zok M_X7_dikeCount 0 := ⟨inGW 50 (by decide +kernel) rfl, inGW 451 (by decide +kernel) rfl, by decide +kernel, by decide +kernel⟩
theorem okV_X7_dikeCount : zokV M_X7_dikeCount := ⟨inGW 449 (by decide +kernel) rfl, inGW 450 (by decide +kernel) rfl⟩
theorem ok_X7_hasFlood : zok M_X7_hasFlood 1 := ⟨inGW 50 (by decide +kernel) rfl, inGW 459 (by decide +kernel) rfl, by decide +kernel, by decide +kernel⟩
theorem okV_X7_hasFlood : zokV M_X7_hasFlood := ⟨inGW 457 (by decide +kernel) rfl, inGW 458 (by decide +kernel) rfl⟩
theorem ok_X7_changeFlood : zok M_X7_changeFlood 2 := ⟨inGW 50 (by decide +kernel) rfl, inGW 463 (by decide +kernel) rfl, by decide +kernel, by decide +kernel⟩
theorem okV_X7_changeFlood : zokV M_X7_changeFlood := ⟨inGW 461 (by decide +kernel) rfl, inGW 462 (by decide +kernel) rfl⟩
theorem ok_X7_addFlood : zok M_X7_addFlood 1 := ⟨inGW 50 (by decide +kernel) rfl, inGW 467 (by decide +kernel) rfl, by decide +kernel, by decide +kernel⟩
theorem okV_X7_addFlood : zokV M_X7_addFlood := ⟨inGW 466 (by decide +kernel) rfl, inGW 6 (by decide +kernel) rfl⟩
theorem ok_X7_removeFlood : zok M_X7_removeFlood 1 := ⟨inGW 50 (by decide +kernel) rfl, inGW 471 (by decide +kernel) rfl, by decide +kernel, by decide +kernel⟩
theorem okV_X7_removeFlood : zokV M_X7_removeFlood := ⟨inGW 470 (by decide +kernel) rfl, inGW 7 (by decide +kernel) rfl⟩
theorem ok_X7_wearOf : zok M_X7_wearOf 1 := ⟨inGW 50 (by decide +kernel) rfl, inGW 600 (by decide +kernel) rfl, by decide +kernel, by decide +kernel⟩
theorem okV_X7_wearOf : zokV M_X7_wearOf := ⟨inGW 598 (by decide +kernel) rfl, inGW 599 (by decide +kernel) rfl⟩
theorem ok_X7_wearSum : zok M_X7_wearSum 0 := ⟨inGW 50 (by decide +kernel) rfl, inGW 722 (by decide +kernel) rfl, by decide +kernel, by decide +kernel⟩
theorem okV_X7_wearSum : zokV M_X7_wearSum := ⟨inGW 720 (by decide +kernel) rfl, inGW 721 (by decide +kernel) rfl⟩
theorem ok_X7_bankCell : zok M_X7_bankCell 2 := ⟨inGW 50 (by decide +kernel) rfl, inGW 567 (by decide +kernel) rfl, by decide +kernel, by decide +kernel⟩
theorem okV_X7_bankCell : zokV M_X7_bankCell := ⟨inGW 565 (by decide +kernel) rfl, inGW 566 (by decide +kernel) rfl⟩
theorem ok_X7_isFirm : zok M_X7_isFirm 1 := ⟨inGW 50 (by decide +kernel) rfl, inGW 563 (by decide +kernel) rfl, by decide +kernel, by decide +kernel⟩
theorem okV_X7_isFirm : zokV M_X7_isFirm := ⟨inGW 561 (by decide +kernel) rfl, inGW 562 (by decide +kernel) rfl⟩
theorem ok_X7_leastWear : zok M_X7_leastWear 1 := ⟨inGW 50 (by decide +kernel) rfl, inGW 596 (by decide +kernel) rfl, by decide +kernel, by decide +kernel⟩
theorem okV_X7_leastWear : zokV M_X7_leastWear := ⟨inGW 594 (by decide +kernel) rfl, inGW 595 (by decide +kernel) rfl⟩
theorem ok_X7_canGrow : zok M_X7_canGrow 1 := ⟨inGW 50 (by decide +kernel) rfl, inGW 590 (by decide +kernel) rfl, by decide +kernel, by decide +kernel⟩
theorem okV_X7_canGrow : zokV M_X7_canGrow := ⟨inGW 588 (by decide +kernel) rfl, inGW 589 (by decide +kernel) rfl⟩
theorem ok_X7_wearBank : zok M_X7_wearBank 2 := ⟨inGW 50 (by decide +kernel) rfl, inGW 575 (by decide +kernel) rfl, by decide +kernel, by decide +kernel⟩
theorem okV_X7_wearBank : zokV M_X7_wearBank := ⟨inGW 573 (by decide +kernel) rfl, inGW 574 (by decide +kernel) rfl⟩
theorem ok_X7_growBend : zok M_X7_growBend 1 := ⟨inGW 50 (by decide +kernel) rfl, inGW 610 (by decide +kernel) rfl, by decide +kernel, by decide +kernel⟩
theorem okV_X7_growBend : zokV M_X7_growBend := ⟨inGW 608 (by decide +kernel) rfl, inGW 609 (by decide +kernel) rfl⟩
theorem ok_X7_pairOf : zok M_X7_pairOf 2 := ⟨inGW 50 (by decide +kernel) rfl, inGW 624 (by decide +kernel) rfl, by decide +kernel, by decide +kernel⟩
theorem okV_X7_pairOf : zokV M_X7_pairOf := ⟨inGW 623 (by decide +kernel) rfl, inGW 13 (by decide +kernel) rfl⟩
theorem ok_X7_ageOf : zok M_X7_ageOf 2 := ⟨inGW 50 (by decide +kernel) rfl, inGW 639 (by decide +kernel) rfl, by decide +kernel, by decide +kernel⟩
theorem okV_X7_ageOf : zokV M_X7_ageOf := ⟨inGW 637 (by decide +kernel) rfl, inGW 638 (by decide +kernel) rfl⟩
theorem ok_X7_agePairs : zok M_X7_agePairs 0 := ⟨inGW 50 (by decide +kernel) rfl, inGW 619 (by decide +kernel) rfl, by decide +kernel, by decide +kernel⟩
theorem okV_X7_agePairs : zokV M_X7_agePairs := ⟨inGW 617 (by decide +kernel) rfl, inGW 618 (by decide +kernel) rfl⟩
theorem ok_X7_cutBetween : zok M_X7_cutBetween 2 := ⟨inGW 50 (by decide +kernel) rfl, inGW 498 (by decide +kernel) rfl, by decide +kernel, by decide +kernel⟩
theorem okV_X7_cutBetween : zokV M_X7_cutBetween := ⟨inGW 496 (by decide +kernel) rfl, inGW 497 (by decide +kernel) rfl⟩
theorem ok_X8_init : zok M_X8_init 0 := ⟨inGW 49 (by decide +kernel) rfl, inGW 66 (by decide +kernel) rfl, by decide +kernel, by decide +kernel⟩
theorem okI_X8_init : Cond.instanceMethod (ky M_X8_init) ∈ GW := inGW 65 (by decide +kernel) rfl
theorem ok_X8_set : zok M_X8_set 2 := ⟨inGW 49 (by decide +kernel) rfl, inGW 337 (by decide +kernel) rfl, by decide +kernel, by decide +kernel⟩
theorem okV_X8_set : zokV M_X8_set := ⟨inGW 335 (by decide +kernel) rfl, inGW 336 (by decide +kernel) rfl⟩
theorem ok_X8_read : zok M_X8_read 0 := ⟨inGW 49 (by decide +kernel) rfl, inGW 369 (by decide +kernel) rfl, by decide +kernel, by decide +kernel⟩
theorem okV_X8_read : zokV M_X8_read := ⟨inGW 367 (by decide +kernel) rfl, inGW 368 (by decide +kernel) rfl⟩
theorem ok_X8_dike : zok M_X8_dike 3 := ⟨inGW 49 (by decide +kernel) rfl, inGW 430 (by decide +kernel) rfl, by decide +kernel, by decide +kernel⟩
theorem okV_X8_dike : zokV M_X8_dike := ⟨inGW 428 (by decide +kernel) rfl, inGW 429 (by decide +kernel) rfl⟩
theorem ok_X8_flood : zok M_X8_flood 2 := ⟨inGW 49 (by decide +kernel) rfl, inGW 455 (by decide +kernel) rfl, by decide +kernel, by decide +kernel⟩
theorem okV_X8_flood : zokV M_X8_flood := ⟨inGW 453 (by decide +kernel) rfl, inGW 454 (by decide +kernel) rfl⟩
theorem ok_X8_cut : zok M_X8_cut 1 := ⟨inGW 49 (by decide +kernel) rfl, inGW 475 (by decide +kernel) rfl, by decide +kernel, by decide +kernel⟩
theorem okV_X8_cut : zokV M_X8_cut := ⟨inGW 473 (by decide +kernel) rfl, inGW 474 (by decide +kernel) rfl⟩
theorem ok_X8_pass : zok M_X8_pass 1 := ⟨inGW 49 (by decide +kernel) rfl, inGW 528 (by decide +kernel) rfl, by decide +kernel, by decide +kernel⟩
theorem okV_X8_pass : zokV M_X8_pass := ⟨inGW 526 (by decide +kernel) rfl, inGW 527 (by decide +kernel) rfl⟩
theorem ok_X8_cell : zok M_X8_cell 3 := ⟨inGW 49 (by decide +kernel) rfl, inGW 649 (by decide +kernel) rfl, by decide +kernel, by decide +kernel⟩
theorem okV_X8_cell : zokV M_X8_cell := ⟨inGW 647 (by decide +kernel) rfl, inGW 648 (by decide +kernel) rfl⟩
theorem ok_X8_course : zok M_X8_course 2 := ⟨inGW 49 (by decide +kernel) rfl, inGW 659 (by decide +kernel) rfl, by decide +kernel, by decide +kernel⟩
theorem okV_X8_course : zokV M_X8_course := ⟨inGW 657 (by decide +kernel) rfl, inGW 658 (by decide +kernel) rfl⟩
theorem ok_X8_bend : zok M_X8_bend 2 := ⟨inGW 49 (by decide +kernel) rfl, inGW 665 (by decide +kernel) rfl, by decide +kernel, by decide +kernel⟩
theorem okV_X8_bend : zokV M_X8_bend := ⟨inGW 663 (by decide +kernel) rfl, inGW 664 (by decide +kernel) rfl⟩
theorem ok_X8_neck : zok M_X8_neck 2 := ⟨inGW 49 (by decide +kernel) rfl, inGW 677 (by decide +kernel) rfl, by decide +kernel, by decide +kernel⟩
theorem okV_X8_neck : zokV M_X8_neck := ⟨inGW 675 (by decide +kernel) rfl, inGW 676 (by decide +kernel) rfl⟩
theorem ok_X8_oxbow : zok M_X8_oxbow 2 := ⟨inGW 49 (by decide +kernel) rfl, inGW 682 (by decide +kernel) rfl, by decide +kernel, by decide +kernel⟩
theorem okV_X8_oxbow : zokV M_X8_oxbow := ⟨inGW 680 (by decide +kernel) rfl, inGW 681 (by decide +kernel) rfl⟩
theorem ok_X8_count : zok M_X8_count 1 := ⟨inGW 49 (by decide +kernel) rfl, inGW 699 (by decide +kernel) rfl, by decide +kernel, by decide +kernel⟩
theorem okV_X8_count : zokV M_X8_count := ⟨inGW 697 (by decide +kernel) rfl, inGW 698 (by decide +kernel) rfl⟩
theorem ok_X8_isFlood : zok M_X8_isFlood 1 := ⟨inGW 49 (by decide +kernel) rfl, inGW 734 (by decide +kernel) rfl, by decide +kernel, by decide +kernel⟩
theorem okV_X8_isFlood : zokV M_X8_isFlood := ⟨inGW 732 (by decide +kernel) rfl, inGW 733 (by decide +kernel) rfl⟩
theorem ok_X8_ifPassed : zok M_X8_ifPassed 2 := ⟨inGW 49 (by decide +kernel) rfl, inGW 738 (by decide +kernel) rfl, by decide +kernel, by decide +kernel⟩
theorem okV_X8_ifPassed : zokV M_X8_ifPassed := ⟨inGW 736 (by decide +kernel) rfl, inGW 737 (by decide +kernel) rfl⟩
theorem ok_X8_nextCut : zok M_X8_nextCut 1 := ⟨inGW 49 (by decide +kernel) rfl, inGW 742 (by decide +kernel) rfl, by decide +kernel, by decide +kernel⟩
theorem okV_X8_nextCut : zokV M_X8_nextCut := ⟨inGW 740 (by decide +kernel) rfl, inGW 741 (by decide +kernel) rfl⟩
theorem ok_X8_taken : zok M_X8_taken 2 := ⟨inGW 49 (by decide +kernel) rfl, inGW 746 (by decide +kernel) rfl, by decide +kernel, by decide +kernel⟩
theorem okV_X8_taken : zokV M_X8_taken := ⟨inGW 744 (by decide +kernel) rfl, inGW 745 (by decide +kernel) rfl⟩
theorem ok_X8_put : zok M_X8_put 1 := ⟨inGW 49 (by decide +kernel) rfl, inGW 754 (by decide +kernel) rfl, by decide +kernel, by decide +kernel⟩
theorem okV_X8_put : zokV M_X8_put := ⟨inGW 752 (by decide +kernel) rfl, inGW 753 (by decide +kernel) rfl⟩
theorem ok_X8_wipe : zok M_X8_wipe 0 := ⟨inGW 49 (by decide +kernel) rfl, inGW 770 (by decide +kernel) rfl, by decide +kernel, by decide +kernel⟩
theorem okV_X8_wipe : zokV M_X8_wipe := ⟨inGW 768 (by decide +kernel) rfl, inGW 769 (by decide +kernel) rfl⟩
theorem ok_X8_fault : zok M_X8_fault 0 := ⟨inGW 49 (by decide +kernel) rfl, inGW 774 (by decide +kernel) rfl, by decide +kernel, by decide +kernel⟩
theorem okV_X8_fault : zokV M_X8_fault := ⟨inGW 772 (by decide +kernel) rfl, inGW 773 (by decide +kernel) rfl⟩
theorem ok_X8_undo : zok M_X8_undo 0 := ⟨inGW 49 (by decide +kernel) rfl, inGW 778 (by decide +kernel) rfl, by decide +kernel, by decide +kernel⟩
theorem okV_X8_undo : zokV M_X8_undo := ⟨inGW 776 (by decide +kernel) rfl, inGW 777 (by decide +kernel) rfl⟩
theorem ok_X8_save : zok M_X8_save 1 := ⟨inGW 49 (by decide +kernel) rfl, inGW 786 (by decide +kernel) rfl, by decide +kernel, by decide +kernel⟩
theorem okV_X8_save : zokV M_X8_save := ⟨inGW 784 (by decide +kernel) rfl, inGW 785 (by decide +kernel) rfl⟩
theorem ok_X8_restore : zok M_X8_restore 1 := ⟨inGW 49 (by decide +kernel) rfl, inGW 790 (by decide +kernel) rfl, by decide +kernel, by decide +kernel⟩
theorem okV_X8_restore : zokV M_X8_restore := ⟨inGW 788 (by decide +kernel) rfl, inGW 789 (by decide +kernel) rfl⟩
theorem ok_X8_countBends : zok M_X8_countBends 1 := ⟨inGW 49 (by decide +kernel) rfl, inGW 703 (by decide +kernel) rfl, by decide +kernel, by decide +kernel⟩
theorem okV_X8_countBends : zokV M_X8_countBends := ⟨inGW 702 (by decide +kernel) rfl, inGW 15 (by decide +kernel) rfl⟩
theorem ok_X8_countNecks : zok M_X8_countNecks 0 := ⟨inGW 49 (by decide +kernel) rfl, inGW 708 (by decide +kernel) rfl, by decide +kernel, by decide +kernel⟩
theorem okV_X8_countNecks : zokV M_X8_countNecks := ⟨inGW 707 (by decide +kernel) rfl, inGW 16 (by decide +kernel) rfl⟩
theorem ok_X8_orNone : zok M_X8_orNone 1 := ⟨inGW 49 (by decide +kernel) rfl, inGW 652 (by decide +kernel) rfl, by decide +kernel, by decide +kernel⟩
theorem okS_X8_orNone : Cond.static (ky M_X8_orNone) ∈ GW := inGW 651 (by decide +kernel) rfl
theorem ok_X8_asNumber : zok M_X8_asNumber 1 := ⟨inGW 49 (by decide +kernel) rfl, inGW 447 (by decide +kernel) rfl, by decide +kernel, by decide +kernel⟩
theorem okS_X8_asNumber : Cond.static (ky M_X8_asNumber) ∈ GW := inGW 446 (by decide +kernel) rfl
theorem ok_X8_cellAt : zok M_X8_cellAt 2 := ⟨inGW 49 (by decide +kernel) rfl, inGW 134 (by decide +kernel) rfl, by decide +kernel, by decide +kernel⟩
theorem okS_X8_cellAt : Cond.static (ky M_X8_cellAt) ∈ GW := inGW 133 (by decide +kernel) rfl
theorem ok_X8_isOnLand : zok M_X8_isOnLand 1 := ⟨inGW 49 (by decide +kernel) rfl, inGW 141 (by decide +kernel) rfl, by decide +kernel, by decide +kernel⟩
theorem okS_X8_isOnLand : Cond.static (ky M_X8_isOnLand) ∈ GW := inGW 140 (by decide +kernel) rfl
theorem ok_X8_beside : zok M_X8_beside 2 := ⟨inGW 49 (by decide +kernel) rfl, inGW 418 (by decide +kernel) rfl, by decide +kernel, by decide +kernel⟩
theorem okS_X8_beside : Cond.static (ky M_X8_beside) ∈ GW := inGW 417 (by decide +kernel) rfl
theorem ok_X8_areOpposite : zok M_X8_areOpposite 2 := ⟨inGW 49 (by decide +kernel) rfl, inGW 556 (by decide +kernel) rfl, by decide +kernel, by decide +kernel⟩
theorem okS_X8_areOpposite : Cond.static (ky M_X8_areOpposite) ∈ GW := inGW 555 (by decide +kernel) rfl
theorem ok_X9_init : zok M_X9_init 0 := ⟨inGW 60 (by decide +kernel) rfl, inGW 795 (by decide +kernel) rfl, by decide +kernel, by decide +kernel⟩
theorem okI_X9_init : Cond.instanceMethod (ky M_X9_init) ∈ GW := inGW 794 (by decide +kernel) rfl
theorem ok_X9_begin : zok M_X9_begin 0 := ⟨inGW 60 (by decide +kernel) rfl, inGW 800 (by decide +kernel) rfl, by decide +kernel, by decide +kernel⟩
theorem okV_X9_begin : zokV M_X9_begin := ⟨inGW 799 (by decide +kernel) rfl, inGW 17 (by decide +kernel) rfl⟩
theorem ok_X9_in : zok M_X9_in 3 := ⟨inGW 60 (by decide +kernel) rfl, inGW 880 (by decide +kernel) rfl, by decide +kernel, by decide +kernel⟩
theorem okS_X9_in : Cond.static (ky M_X9_in) ∈ GW := inGW 879 (by decide +kernel) rfl
theorem ok_X9_isCell : zok M_X9_isCell 2 := ⟨inGW 60 (by decide +kernel) rfl, inGW 891 (by decide +kernel) rfl, by decide +kernel, by decide +kernel⟩
theorem okS_X9_isCell : Cond.static (ky M_X9_isCell) ∈ GW := inGW 890 (by decide +kernel) rfl
theorem ok_X9_know : zok M_X9_know 0 := ⟨inGW 60 (by decide +kernel) rfl, inGW 884 (by decide +kernel) rfl, by decide +kernel, by decide +kernel⟩
theorem okV_X9_know : zokV M_X9_know := ⟨inGW 883 (by decide +kernel) rfl, inGW 18 (by decide +kernel) rfl⟩
theorem ok_X9_putAside : zok M_X9_putAside 0 := ⟨inGW 60 (by decide +kernel) rfl, inGW 1039 (by decide +kernel) rfl, by decide +kernel, by decide +kernel⟩
theorem okV_X9_putAside : zokV M_X9_putAside := ⟨inGW 1038 (by decide +kernel) rfl, inGW 41 (by decide +kernel) rfl⟩
theorem ok_X9_putBack : zok M_X9_putBack 0 := ⟨inGW 60 (by decide +kernel) rfl, inGW 1043 (by decide +kernel) rfl, by decide +kernel, by decide +kernel⟩
theorem okV_X9_putBack : zokV M_X9_putBack := ⟨inGW 1042 (by decide +kernel) rfl, inGW 42 (by decide +kernel) rfl⟩
theorem ok_X9_stepped : zok M_X9_stepped 2 := ⟨inGW 60 (by decide +kernel) rfl, inGW 964 (by decide +kernel) rfl, by decide +kernel, by decide +kernel⟩
theorem okS_X9_stepped : Cond.static (ky M_X9_stepped) ∈ GW := inGW 963 (by decide +kernel) rfl
theorem ok_X9_way : zok M_X9_way 1 := ⟨inGW 60 (by decide +kernel) rfl, inGW 949 (by decide +kernel) rfl, by decide +kernel, by decide +kernel⟩
theorem okV_X9_way : zokV M_X9_way := ⟨inGW 948 (by decide +kernel) rfl, inGW 28 (by decide +kernel) rfl⟩
theorem ok_X9_numberOf : zok M_X9_numberOf 1 := ⟨inGW 60 (by decide +kernel) rfl, inGW 895 (by decide +kernel) rfl, by decide +kernel, by decide +kernel⟩
theorem okV_X9_numberOf : zokV M_X9_numberOf := ⟨inGW 894 (by decide +kernel) rfl, inGW 19 (by decide +kernel) rfl⟩
theorem ok_X9_findBends : zok M_X9_findBends 0 := ⟨inGW 60 (by decide +kernel) rfl, inGW 945 (by decide +kernel) rfl, by decide +kernel, by decide +kernel⟩
theorem okV_X9_findBends : zokV M_X9_findBends := ⟨inGW 944 (by decide +kernel) rfl, inGW 27 (by decide +kernel) rfl⟩
theorem ok_X9_wayOf : zok M_X9_wayOf 1 := ⟨inGW 60 (by decide +kernel) rfl, inGW 961 (by decide +kernel) rfl, by decide +kernel, by decide +kernel⟩
theorem okV_X9_wayOf : zokV M_X9_wayOf := ⟨inGW 960 (by decide +kernel) rfl, inGW 31 (by decide +kernel) rfl⟩
theorem ok_X9_bank : zok M_X9_bank 2 := ⟨inGW 60 (by decide +kernel) rfl, inGW 957 (by decide +kernel) rfl, by decide +kernel, by decide +kernel⟩
theorem okV_X9_bank : zokV M_X9_bank := ⟨inGW 956 (by decide +kernel) rfl, inGW 30 (by decide +kernel) rfl⟩
theorem ok_X9_isFirm : zok M_X9_isFirm 1 := ⟨inGW 60 (by decide +kernel) rfl, inGW 953 (by decide +kernel) rfl, by decide +kernel, by decide +kernel⟩
theorem okV_X9_isFirm : zokV M_X9_isFirm := ⟨inGW 952 (by decide +kernel) rfl, inGW 29 (by decide +kernel) rfl⟩
theorem ok_X9_leastWear : zok M_X9_leastWear 1 := ⟨inGW 60 (by decide +kernel) rfl, inGW 976 (by decide +kernel) rfl, by decide +kernel, by decide +kernel⟩
theorem okV_X9_leastWear : zokV M_X9_leastWear := ⟨inGW 975 (by decide +kernel) rfl, inGW 34 (by decide +kernel) rfl⟩
theorem ok_X9_canGrow : zok M_X9_canGrow 1 := ⟨inGW 60 (by decide +kernel) rfl, inGW 972 (by decide +kernel) rfl, by decide +kernel, by decide +kernel⟩
theorem okV_X9_canGrow : zokV M_X9_canGrow := ⟨inGW 971 (by decide +kernel) rfl, inGW 33 (by decide +kernel) rfl⟩
theorem ok_X9_dropOxbow : zok M_X9_dropOxbow 1 := ⟨inGW 60 (by decide +kernel) rfl, inGW 929 (by decide +kernel) rfl, by decide +kernel, by decide +kernel⟩
theorem okV_X9_dropOxbow : zokV M_X9_dropOxbow := ⟨inGW 928 (by decide +kernel) rfl, inGW 24 (by decide +kernel) rfl⟩
theorem ok_X9_grow : zok M_X9_grow 1 := ⟨inGW 60 (by decide +kernel) rfl, inGW 980 (by decide +kernel) rfl, by decide +kernel, by decide +kernel⟩
theorem okV_X9_grow : zokV M_X9_grow := ⟨inGW 979 (by decide +kernel) rfl, inGW 35 (by decide +kernel) rfl⟩
theorem ok_X9_pair : zok M_X9_pair 2 := ⟨inGW 60 (by decide +kernel) rfl, inGW 921 (by decide +kernel) rfl, by decide +kernel, by decide +kernel⟩
theorem okS_X9_pair : Cond.static (ky M_X9_pair) ∈ GW := inGW 920 (by decide +kernel) rfl
theorem ok_X9_areNeighbours : zok M_X9_areNeighbours 2 := ⟨inGW 60 (by decide +kernel) rfl, inGW 918 (by decide +kernel) rfl, by decide +kernel, by decide +kernel⟩
theorem okS_X9_areNeighbours : Cond.static (ky M_X9_areNeighbours) ∈ GW := inGW 917 (by decide +kernel) rfl
theorem ok_X9_findNeck : zok M_X9_findNeck 2 := ⟨inGW 60 (by decide +kernel) rfl, inGW 915 (by decide +kernel) rfl, by decide +kernel, by decide +kernel⟩
theorem okV_X9_findNeck : zokV M_X9_findNeck := ⟨inGW 914 (by decide +kernel) rfl, inGW 22 (by decide +kernel) rfl⟩
theorem ok_X9_cutNeck : zok M_X9_cutNeck 0 := ⟨inGW 60 (by decide +kernel) rfl, inGW 925 (by decide +kernel) rfl, by decide +kernel, by decide +kernel⟩
theorem okV_X9_cutNeck : zokV M_X9_cutNeck := ⟨inGW 924 (by decide +kernel) rfl, inGW 23 (by decide +kernel) rfl⟩
theorem ok_X9_isFloodYear : zok M_X9_isFloodYear 1 := ⟨inGW 60 (by decide +kernel) rfl, inGW 907 (by decide +kernel) rfl, by decide +kernel, by decide +kernel⟩
theorem okV_X9_isFloodYear : zokV M_X9_isFloodYear := ⟨inGW 906 (by decide +kernel) rfl, inGW 21 (by decide +kernel) rfl⟩
theorem ok_X9_wear : zok M_X9_wear 0 := ⟨inGW 60 (by decide +kernel) rfl, inGW 941 (by decide +kernel) rfl, by decide +kernel, by decide +kernel⟩
theorem okV_X9_wear : zokV M_X9_wear := ⟨inGW 940 (by decide +kernel) rfl, inGW 26 (by decide +kernel) rfl⟩
theorem ok_X9_growAll : zok M_X9_growAll 0 := ⟨inGW 60 (by decide +kernel) rfl, inGW 968 (by decide +kernel) rfl, by decide +kernel, by decide +kernel⟩
theorem okV_X9_growAll : zokV M_X9_growAll := ⟨inGW 967 (by decide +kernel) rfl, inGW 32 (by decide +kernel) rfl⟩
theorem ok_X9_age : zok M_X9_age 0 := ⟨inGW 60 (by decide +kernel) rfl, inGW 984 (by decide +kernel) rfl, by decide +kernel, by decide +kernel⟩
theorem okV_X9_age : zokV M_X9_age := ⟨inGW 983 (by decide +kernel) rfl, inGW 36 (by decide +kernel) rfl⟩
theorem ok_X9_goOn : zok M_X9_goOn 0 := ⟨inGW 60 (by decide +kernel) rfl, inGW 937 (by decide +kernel) rfl, by decide +kernel, by decide +kernel⟩
theorem okV_X9_goOn : zokV M_X9_goOn := ⟨inGW 936 (by decide +kernel) rfl, inGW 25 (by decide +kernel) rfl⟩
theorem ok_X9_set : zok M_X9_set 2 := ⟨inGW 60 (by decide +kernel) rfl, inGW 877 (by decide +kernel) rfl, by decide +kernel, by decide +kernel⟩
theorem okV_X9_set : zokV M_X9_set := ⟨inGW 875 (by decide +kernel) rfl, inGW 876 (by decide +kernel) rfl⟩
theorem ok_X9_dikes : zok M_X9_dikes 0 := ⟨inGW 60 (by decide +kernel) rfl, inGW 899 (by decide +kernel) rfl, by decide +kernel, by decide +kernel⟩
theorem okV_X9_dikes : zokV M_X9_dikes := ⟨inGW 898 (by decide +kernel) rfl, inGW 20 (by decide +kernel) rfl⟩
theorem ok_X9_dike : zok M_X9_dike 3 := ⟨inGW 60 (by decide +kernel) rfl, inGW 888 (by decide +kernel) rfl, by decide +kernel, by decide +kernel⟩
theorem okV_X9_dike : zokV M_X9_dike := ⟨inGW 886 (by decide +kernel) rfl, inGW 887 (by decide +kernel) rfl⟩
theorem ok_X9_flood : zok M_X9_flood 2 := ⟨inGW 60 (by decide +kernel) rfl, inGW 903 (by decide +kernel) rfl, by decide +kernel, by decide +kernel⟩
theorem okV_X9_flood : zokV M_X9_flood := ⟨inGW 901 (by decide +kernel) rfl, inGW 902 (by decide +kernel) rfl⟩
theorem ok_X9_cut : zok M_X9_cut 1 := ⟨inGW 60 (by decide +kernel) rfl, inGW 911 (by decide +kernel) rfl, by decide +kernel, by decide +kernel⟩
theorem okV_X9_cut : zokV M_X9_cut := ⟨inGW 909 (by decide +kernel) rfl, inGW 910 (by decide +kernel) rfl⟩
theorem ok_X9_pass : zok M_X9_pass 1 := ⟨inGW 60 (by decide +kernel) rfl, inGW 933 (by decide +kernel) rfl, by decide +kernel, by decide +kernel⟩
theorem okV_X9_pass : zokV M_X9_pass := ⟨inGW 931 (by decide +kernel) rfl, inGW 932 (by decide +kernel) rfl⟩
theorem ok_X9_cell : zok M_X9_cell 3 := ⟨inGW 60 (by decide +kernel) rfl, inGW 988 (by decide +kernel) rfl, by decide +kernel, by decide +kernel⟩
theorem okV_X9_cell : zokV M_X9_cell := ⟨inGW 986 (by decide +kernel) rfl, inGW 987 (by decide +kernel) rfl⟩
theorem ok_X9_course : zok M_X9_course 2 := ⟨inGW 60 (by decide +kernel) rfl, inGW 992 (by decide +kernel) rfl, by decide +kernel, by decide +kernel⟩
theorem okV_X9_course : zokV M_X9_course := ⟨inGW 990 (by decide +kernel) rfl, inGW 991 (by decide +kernel) rfl⟩
theorem ok_X9_bend : zok M_X9_bend 2 := ⟨inGW 60 (by decide +kernel) rfl, inGW 996 (by decide +kernel) rfl, by decide +kernel, by decide +kernel⟩
theorem okV_X9_bend : zokV M_X9_bend := ⟨inGW 994 (by decide +kernel) rfl, inGW 995 (by decide +kernel) rfl⟩
theorem ok_X9_neck : zok M_X9_neck 2 := ⟨inGW 60 (by decide +kernel) rfl, inGW 1000 (by decide +kernel) rfl, by decide +kernel, by decide +kernel⟩
theorem okV_X9_neck : zokV M_X9_neck := ⟨inGW 998 (by decide +kernel) rfl, inGW 999 (by decide +kernel) rfl⟩
theorem ok_X9_oxbow : zok M_X9_oxbow 2 := ⟨inGW 60 (by decide +kernel) rfl, inGW 1004 (by decide +kernel) rfl, by decide +kernel, by decide +kernel⟩
theorem okV_X9_oxbow : zokV M_X9_oxbow := ⟨inGW 1002 (by decide +kernel) rfl, inGW 1003 (by decide +kernel) rfl⟩
theorem ok_X9_firm : zok M_X9_firm 0 := ⟨inGW 60 (by decide +kernel) rfl, inGW 1012 (by decide +kernel) rfl, by decide +kernel, by decide +kernel⟩
theorem okV_X9_firm : zokV M_X9_firm := ⟨inGW 1011 (by decide +kernel) rfl, inGW 37 (by decide +kernel) rfl⟩
theorem ok_X9_apart : zok M_X9_apart 2 := ⟨inGW 60 (by decide +kernel) rfl, inGW 1023 (by decide +kernel) rfl, by decide +kernel, by decide +kernel⟩
theorem okS_X9_apart : Cond.static (ky M_X9_apart) ∈ GW := inGW 1022 (by decide +kernel) rfl
theorem ok_X9_winding : zok M_X9_winding 0 := ⟨inGW 60 (by decide +kernel) rfl, inGW 1020 (by decide +kernel) rfl, by decide +kernel, by decide +kernel⟩
theorem okV_X9_winding : zokV M_X9_winding := ⟨inGW 1019 (by decide +kernel) rfl, inGW 39 (by decide +kernel) rfl⟩
theorem ok_X9_allWear : zok M_X9_allWear 0 := ⟨inGW 60 (by decide +kernel) rfl, inGW 1027 (by decide +kernel) rfl, by decide +kernel, by decide +kernel⟩
theorem okV_X9_allWear : zokV M_X9_allWear := ⟨inGW 1026 (by decide +kernel) rfl, inGW 40 (by decide +kernel) rfl⟩
theorem ok_X9_allNecks : zok M_X9_allNecks 0 := ⟨inGW 60 (by decide +kernel) rfl, inGW 1016 (by decide +kernel) rfl, by decide +kernel, by decide +kernel⟩
theorem okV_X9_allNecks : zokV M_X9_allNecks := ⟨inGW 1015 (by decide +kernel) rfl, inGW 38 (by decide +kernel) rfl⟩
theorem ok_X9_count : zok M_X9_count 1 := ⟨inGW 60 (by decide +kernel) rfl, inGW 1008 (by decide +kernel) rfl, by decide +kernel, by decide +kernel⟩
theorem okV_X9_count : zokV M_X9_count := ⟨inGW 1006 (by decide +kernel) rfl, inGW 1007 (by decide +kernel) rfl⟩
theorem ok_X9_isFlood : zok M_X9_isFlood 1 := ⟨inGW 60 (by decide +kernel) rfl, inGW 1031 (by decide +kernel) rfl, by decide +kernel, by decide +kernel⟩
theorem okV_X9_isFlood : zokV M_X9_isFlood := ⟨inGW 1029 (by decide +kernel) rfl, inGW 1030 (by decide +kernel) rfl⟩
theorem ok_X9_ifPassed : zok M_X9_ifPassed 2 := ⟨inGW 60 (by decide +kernel) rfl, inGW 1035 (by decide +kernel) rfl, by decide +kernel, by decide +kernel⟩
theorem okV_X9_ifPassed : zokV M_X9_ifPassed := ⟨inGW 1033 (by decide +kernel) rfl, inGW 1034 (by decide +kernel) rfl⟩
theorem ok_X9_nextCut : zok M_X9_nextCut 1 := ⟨inGW 60 (by decide +kernel) rfl, inGW 1047 (by decide +kernel) rfl, by decide +kernel, by decide +kernel⟩
theorem okV_X9_nextCut : zokV M_X9_nextCut := ⟨inGW 1045 (by decide +kernel) rfl, inGW 1046 (by decide +kernel) rfl⟩
theorem ok_X9_taken : zok M_X9_taken 2 := ⟨inGW 60 (by decide +kernel) rfl, inGW 1051 (by decide +kernel) rfl, by decide +kernel, by decide +kernel⟩
theorem okV_X9_taken : zokV M_X9_taken := ⟨inGW 1049 (by decide +kernel) rfl, inGW 1050 (by decide +kernel) rfl⟩
theorem ok_X9_put : zok M_X9_put 1 := ⟨inGW 60 (by decide +kernel) rfl, inGW 1055 (by decide +kernel) rfl, by decide +kernel, by decide +kernel⟩
theorem okV_X9_put : zokV M_X9_put := ⟨inGW 1053 (by decide +kernel) rfl, inGW 1054 (by decide +kernel) rfl⟩
theorem ok_X9_wipe : zok M_X9_wipe 0 := ⟨inGW 60 (by decide +kernel) rfl, inGW 1060 (by decide +kernel) rfl, by decide +kernel, by decide +kernel⟩
theorem okV_X9_wipe : zokV M_X9_wipe := ⟨inGW 1058 (by decide +kernel) rfl, inGW 1059 (by decide +kernel) rfl⟩
theorem ok_X9_sign : zok M_X9_sign 2 := ⟨inGW 60 (by decide +kernel) rfl, inGW 1076 (by decide +kernel) rfl, by decide +kernel, by decide +kernel⟩
theorem okV_X9_sign : zokV M_X9_sign := ⟨inGW 1075 (by decide +kernel) rfl, inGW 45 (by decide +kernel) rfl⟩
theorem ok_X9_isNext : zok M_X9_isNext 2 := ⟨inGW 60 (by decide +kernel) rfl, inGW 1080 (by decide +kernel) rfl, by decide +kernel, by decide +kernel⟩
theorem okV_X9_isNext : zokV M_X9_isNext := ⟨inGW 1079 (by decide +kernel) rfl, inGW 46 (by decide +kernel) rfl⟩
theorem ok_X9_number : zok M_X9_number 1 := ⟨inGW 60 (by decide +kernel) rfl, inGW 1072 (by decide +kernel) rfl, by decide +kernel, by decide +kernel⟩
theorem okV_X9_number : zokV M_X9_number := ⟨inGW 1071 (by decide +kernel) rfl, inGW 44 (by decide +kernel) rfl⟩
theorem ok_X9_tell : zok M_X9_tell 1 := ⟨inGW 60 (by decide +kernel) rfl, inGW 1084 (by decide +kernel) rfl, by decide +kernel, by decide +kernel⟩
theorem okV_X9_tell : zokV M_X9_tell := ⟨inGW 1083 (by decide +kernel) rfl, inGW 47 (by decide +kernel) rfl⟩
theorem ok_X9_readPad : zok M_X9_readPad 0 := ⟨inGW 60 (by decide +kernel) rfl, inGW 1068 (by decide +kernel) rfl, by decide +kernel, by decide +kernel⟩
theorem okV_X9_readPad : zokV M_X9_readPad := ⟨inGW 1067 (by decide +kernel) rfl, inGW 43 (by decide +kernel) rfl⟩
theorem ok_X9_fault : zok M_X9_fault 0 := ⟨inGW 60 (by decide +kernel) rfl, inGW 1064 (by decide +kernel) rfl, by decide +kernel, by decide +kernel⟩
theorem okV_X9_fault : zokV M_X9_fault := ⟨inGW 1062 (by decide +kernel) rfl, inGW 1063 (by decide +kernel) rfl⟩
theorem ok_X9_read : zok M_X9_read 0 := ⟨inGW 60 (by decide +kernel) rfl, inGW 1088 (by decide +kernel) rfl, by decide +kernel, by decide +kernel⟩
theorem okV_X9_read : zokV M_X9_read := ⟨inGW 1086 (by decide +kernel) rfl, inGW 1087 (by decide +kernel) rfl⟩
theorem ok_X9_undo : zok M_X9_undo 0 := ⟨inGW 60 (by decide +kernel) rfl, inGW 1092 (by decide +kernel) rfl, by decide +kernel, by decide +kernel⟩
theorem okV_X9_undo : zokV M_X9_undo := ⟨inGW 1090 (by decide +kernel) rfl, inGW 1091 (by decide +kernel) rfl⟩
theorem ok_X9_save : zok M_X9_save 1 := ⟨inGW 60 (by decide +kernel) rfl, inGW 1096 (by decide +kernel) rfl, by decide +kernel, by decide +kernel⟩
theorem okV_X9_save : zokV M_X9_save := ⟨inGW 1094 (by decide +kernel) rfl, inGW 1095 (by decide +kernel) rfl⟩
theorem ok_X9_restore : zok M_X9_restore 1 := ⟨inGW 60 (by decide +kernel) rfl, inGW 1100 (by decide +kernel) rfl, by decide +kernel, by decide +kernel⟩
theorem okV_X9_restore : zokV M_X9_restore := ⟨inGW 1098 (by decide +kernel) rfl, inGW 1099 (by decide +kernel) rfl⟩
theorem ok_J7_fill_53178 : zok M_J7_fill_53178 2 := ⟨inGW 52 (by decide +kernel) rfl, inGW 90 (by decide +kernel) rfl, by decide +kernel, by decide +kernel⟩
theorem okS_J7_fill_53178 : Cond.static (ky M_J7_fill_53178) ∈ GW := inGW 89 (by decide +kernel) rfl
theorem wf_X0_35 : Cond.fieldLink RX0 35 (RXc 0) (TXc 0 0).2.1 (TXc 0 0).2.2.1 ∈ GW := inGW 249 (by decide +kernel) rfl
theorem wf_X0_39 : Cond.fieldLink RX0 39 (RXc 0) (TXc 0 1).2.1 (TXc 0 1).2.2.1 ∈ GW := inGW 253 (by decide +kernel) rfl
theorem wf_X0_42 : Cond.fieldLink RX0 42 (RXc 0) (TXc 0 2).2.1 (TXc 0 2).2.2.1 ∈ GW := inGW 257 (by decide +kernel) rfl
theorem wf_X1_15 : Cond.fieldLink RX1 15 (RXc 1) (TXc 1 1).2.1 (TXc 1 1).2.2.1 ∈ GW := inGW 92 (by decide +kernel) rfl
theorem wf_X1_21 : Cond.fieldLink RX1 21 (RXc 1) (TXc 1 2).2.1 (TXc 1 2).2.2.1 ∈ GW := inGW 93 (by decide +kernel) rfl
theorem wf_X1_9 : Cond.fieldLink RX1 9 (RXc 1) (TXc 1 0).2.1 (TXc 1 0).2.2.1 ∈ GW := inGW 91 (by decide +kernel) rfl
theorem wf_X2_11 : Cond.fieldLink RX2 11 (RXc 2) (TXc 2 0).2.1 (TXc 2 0).2.2.1 ∈ GW := inGW 198 (by decide +kernel) rfl
theorem wf_X2_18 : Cond.fieldLink RX2 18 (RXc 2) (TXc 2 2).2.1 (TXc 2 2).2.2.1 ∈ GW := inGW 200 (by decide +kernel) rfl
theorem wf_X2_22 : Cond.fieldLink RX2 22 (RXc 2) (TXc 2 1).2.1 (TXc 2 1).2.2.1 ∈ GW := inGW 199 (by decide +kernel) rfl
theorem wf_X3_19 : Cond.fieldLink RX3 19 (RXc 3) (TXc 3 0).2.1 (TXc 3 0).2.2.1 ∈ GW := inGW 273 (by decide +kernel) rfl
theorem wf_X3_25 : Cond.fieldLink RX3 25 (RXc 3) (TXc 3 1).2.1 (TXc 3 1).2.2.1 ∈ GW := inGW 276 (by decide +kernel) rfl
theorem wf_X3_28 : Cond.fieldLinkNest RX3 28 (RXc 7) (TXc 7 1).2.1 (TXc 7 1).2.2.1 RX8 ∈ NW := inNW 144 (by decide +kernel) rfl
theorem wf_X4_15 : Cond.fieldLink RX4 15 (RXc 4) (TXc 4 1).2.1 (TXc 4 1).2.2.1 ∈ GW := inGW 114 (by decide +kernel) rfl
theorem wf_X4_18 : Cond.fieldLink RX4 18 (RXc 4) (TXc 4 2).2.1 (TXc 4 2).2.2.1 ∈ GW := inGW 115 (by decide +kernel) rfl
theorem wf_X4_21 : Cond.fieldLink RX4 21 (RXc 4) (TXc 4 3).2.1 (TXc 4 3).2.2.1 ∈ GW := inGW 116 (by decide +kernel) rfl
theorem wf_X4_27 : Cond.fieldLink RX4 27 (RXc 4) (TXc 4 4).2.1 (TXc 4 4).2.2.1 ∈ GW := inGW 117 (by decide +kernel) rfl
theorem wf_X4_9 : Cond.fieldLink RX4 9 (RXc 4) (TXc 4 0).2.1 (TXc 4 0).2.2.1 ∈ GW := inGW 113 (by decide +kernel) rfl
theorem wf_X5_11 : Cond.fieldLink RX5 11 (RXc 5) (TXc 5 0).2.1 (TXc 5 0).2.2.1 ∈ GW := inGW 215 (by decide +kernel) rfl
theorem wf_X5_15 : Cond.fieldLink RX5 15 (RXc 5) (TXc 5 1).2.1 (TXc 5 1).2.2.1 ∈ GW := inGW 216 (by decide +kernel) rfl
theorem wf_X5_18 : Cond.fieldLink RX5 18 (RXc 5) (TXc 5 2).2.1 (TXc 5 2).2.2.1 ∈ GW := inGW 217 (by decide +kernel) rfl
theorem wf_X5_22 : Cond.fieldLink RX5 22 (RXc 5) (TXc 5 6).2.1 (TXc 5 6).2.2.1 ∈ GW := inGW 221 (by decide +kernel) rfl
theorem wf_X5_27 : Cond.fieldLink RX5 27 (RXc 5) (TXc 5 3).2.1 (TXc 5 3).2.2.1 ∈ GW := inGW 218 (by decide +kernel) rfl
theorem wf_X5_34 : Cond.fieldLink RX5 34 (RXc 5) (TXc 5 4).2.1 (TXc 5 4).2.2.1 ∈ GW := inGW 219 (by decide +kernel) rfl
theorem wf_X5_37 : Cond.fieldLink RX5 37 (RXc 5) (TXc 5 5).2.1 (TXc 5 5).2.2.1 ∈ GW := inGW 220 (by decide +kernel) rfl
theorem wf_X6_116 : Cond.fieldLinkNest RX6 116 (RXc 3) (TXc 3 0).2.1 (TXc 3 0).2.2.1 RX8 ∈ NW := inNW 275 (by decide +kernel) rfl
theorem wf_X6_119 : Cond.fieldLinkNest RX6 119 (RXc 3) (TXc 3 1).2.1 (TXc 3 1).2.2.1 RX8 ∈ NW := inNW 278 (by decide +kernel) rfl
theorem wf_X6_12 : Cond.fieldLink RX6 12 (RXc 6) (TXc 6 0).2.1 (TXc 6 0).2.2.1 ∈ GW := inGW 284 (by decide +kernel) rfl
theorem wf_X6_126 : Cond.fieldLink RX6 126 (RXc 6) (TXc 6 4).2.1 (TXc 6 4).2.2.1 ∈ GW := inGW 289 (by decide +kernel) rfl
theorem wf_X6_21 : Cond.fieldLink RX6 21 (RXc 6) (TXc 6 1).2.1 (TXc 6 1).2.2.1 ∈ GW := inGW 285 (by decide +kernel) rfl
theorem wf_X6_25 : Cond.fieldLink RX6 25 (RXc 6) (TXc 6 2).2.1 (TXc 6 2).2.2.1 ∈ GW := inGW 286 (by decide +kernel) rfl
theorem wf_X6_29 : Cond.fieldLink RX6 29 (RXc 6) (TXc 6 3).2.1 (TXc 6 3).2.2.1 ∈ GW := inGW 287 (by decide +kernel) rfl
theorem wf_X6_33 : Cond.fieldLinkNest RX6 33 (RXc 7) (TXc 7 9).2.1 (TXc 7 9).2.2.1 RX8 ∈ NW := inNW 158 (by decide +kernel) rfl
theorem wf_X6_56 : Cond.fieldLinkNest RX6 56 (RXc 7) (TXc 7 2).2.1 (TXc 7 2).2.2.1 RX8 ∈ NW := inNW 148 (by decide +kernel) rfl
theorem wf_X6_70 : Cond.fieldLinkNest RX6 70 (RXc 7) (TXc 7 1).2.1 (TXc 7 1).2.2.1 RX8 ∈ NW := inNW 146 (by decide +kernel) rfl
theorem wf_X6_86 : Cond.fieldLinkNest RX6 86 (RXc 0) (TXc 0 0).2.1 (TXc 0 0).2.2.1 RX8 ∈ NW := inNW 250 (by decide +kernel) rfl
theorem wf_X6_99 : Cond.fieldLinkNest RX6 99 (RXc 0) (TXc 0 1).2.1 (TXc 0 1).2.2.1 RX8 ∈ NW := inNW 254 (by decide +kernel) rfl
theorem wf_X7_109 : Cond.fieldLinkNest RX7 109 (RXc 0) (TXc 0 2).2.1 (TXc 0 2).2.2.1 RX8 ∈ NW := inNW 259 (by decide +kernel) rfl
theorem wf_X7_117 : Cond.fieldLinkNest RX7 117 (RXc 0) (TXc 0 0).2.1 (TXc 0 0).2.2.1 RX8 ∈ NW := inNW 252 (by decide +kernel) rfl
theorem wf_X7_120 : Cond.fieldLinkNest RX7 120 (RXc 0) (TXc 0 1).2.1 (TXc 0 1).2.2.1 RX8 ∈ NW := inNW 256 (by decide +kernel) rfl
theorem wf_X7_13 : Cond.fieldLink RX7 13 (RXc 7) (TXc 7 0).2.1 (TXc 7 0).2.2.1 ∈ GW := inGW 142 (by decide +kernel) rfl
theorem wf_X7_21 : Cond.fieldLink RX7 21 (RXc 7) (TXc 7 1).2.1 (TXc 7 1).2.2.1 ∈ GW := inGW 143 (by decide +kernel) rfl
theorem wf_X7_28 : Cond.fieldLink RX7 28 (RXc 7) (TXc 7 2).2.1 (TXc 7 2).2.2.1 ∈ GW := inGW 147 (by decide +kernel) rfl
theorem wf_X7_32 : Cond.fieldLink RX7 32 (RXc 7) (TXc 7 3).2.1 (TXc 7 3).2.2.1 ∈ GW := inGW 150 (by decide +kernel) rfl
theorem wf_X7_35 : Cond.fieldLink RX7 35 (RXc 7) (TXc 7 4).2.1 (TXc 7 4).2.2.1 ∈ GW := inGW 151 (by decide +kernel) rfl
theorem wf_X7_38 : Cond.fieldLink RX7 38 (RXc 7) (TXc 7 5).2.1 (TXc 7 5).2.2.1 ∈ GW := inGW 152 (by decide +kernel) rfl
theorem wf_X7_41 : Cond.fieldLink RX7 41 (RXc 7) (TXc 7 6).2.1 (TXc 7 6).2.2.1 ∈ GW := inGW 153 (by decide +kernel) rfl
theorem wf_X7_44 : Cond.fieldLink RX7 44 (RXc 7) (TXc 7 7).2.1 (TXc 7 7).2.2.1 ∈ GW := inGW 154 (by decide +kernel) rfl
theorem wf_X7_68 : Cond.fieldLink RX7 68 (RXc 7) (TXc 7 8).2.1 (TXc 7 8).2.2.1 ∈ GW := inGW 155 (by decide +kernel) rfl
theorem wf_X7_72 : Cond.fieldLink RX7 72 (RXc 7) (TXc 7 9).2.1 (TXc 7 9).2.2.1 ∈ GW := inGW 157 (by decide +kernel) rfl
theorem wf_X7_75 : Cond.fieldLink RX7 75 (RXc 7) (TXc 7 10).2.1 (TXc 7 10).2.2.1 ∈ GW := inGW 160 (by decide +kernel) rfl
theorem wf_X7_78 : Cond.fieldLink RX7 78 (RXc 7) (TXc 7 11).2.1 (TXc 7 11).2.2.1 ∈ GW := inGW 162 (by decide +kernel) rfl
theorem wf_X8_12 : Cond.fieldLink RX8 12 (RXc 8) (TXc 8 0).2.1 (TXc 8 0).2.2.1 ∈ GW := inGW 306 (by decide +kernel) rfl
theorem wf_X8_125 : Cond.fieldLinkNest RX8 125 (RXc 7) (TXc 7 9).2.1 (TXc 7 9).2.2.1 RX8 ∈ NW := inNW 159 (by decide +kernel) rfl
theorem wf_X8_132 : Cond.fieldLinkNest RX8 132 (RXc 7) (TXc 7 8).2.1 (TXc 7 8).2.2.1 RX8 ∈ NW := inNW 156 (by decide +kernel) rfl
theorem wf_X8_142 : Cond.fieldLinkNest RX8 142 (RXc 3) (TXc 3 0).2.1 (TXc 3 0).2.2.1 RX8 ∈ NW := inNW 274 (by decide +kernel) rfl
theorem wf_X8_145 : Cond.fieldLinkNest RX8 145 (RXc 3) (TXc 3 1).2.1 (TXc 3 1).2.2.1 RX8 ∈ NW := inNW 277 (by decide +kernel) rfl
theorem wf_X8_151 : Cond.fieldLinkNest RX8 151 (RXc 7) (TXc 7 10).2.1 (TXc 7 10).2.2.1 RX8 ∈ NW := inNW 161 (by decide +kernel) rfl
theorem wf_X8_16 : Cond.fieldLink RX8 16 (RXc 8) (TXc 8 1).2.1 (TXc 8 1).2.2.1 ∈ GW := inGW 307 (by decide +kernel) rfl
theorem wf_X8_167 : Cond.fieldLinkNest RX8 167 (RXc 7) (TXc 7 2).2.1 (TXc 7 2).2.2.1 RX8 ∈ NW := inNW 149 (by decide +kernel) rfl
theorem wf_X8_183 : Cond.fieldLinkNest RX8 183 (RXc 0) (TXc 0 0).2.1 (TXc 0 0).2.2.1 RX8 ∈ NW := inNW 251 (by decide +kernel) rfl
theorem wf_X8_186 : Cond.fieldLinkNest RX8 186 (RXc 0) (TXc 0 1).2.1 (TXc 0 1).2.2.1 RX8 ∈ NW := inNW 255 (by decide +kernel) rfl
theorem wf_X8_189 : Cond.fieldLinkNest RX8 189 (RXc 0) (TXc 0 2).2.1 (TXc 0 2).2.2.1 RX8 ∈ NW := inNW 258 (by decide +kernel) rfl
theorem wf_X8_19 : Cond.fieldLink RX8 19 (RXc 8) (TXc 8 2).2.1 (TXc 8 2).2.2.1 ∈ GW := inGW 308 (by decide +kernel) rfl
theorem wf_X8_225 : Cond.fieldLinkNest RX8 225 (RXc 7) (TXc 7 11).2.1 (TXc 7 11).2.2.1 RX8 ∈ NW := inNW 163 (by decide +kernel) rfl
theorem wf_X8_23 : Cond.fieldLink RX8 23 (RXc 8) (TXc 8 3).2.1 (TXc 8 3).2.2.1 ∈ GW := inGW 309 (by decide +kernel) rfl
theorem wf_X8_236 : Cond.fieldLinkNest RX8 236 (RXc 6) (TXc 6 4).2.1 (TXc 6 4).2.2.1 RX8 ∈ NW := inNW 290 (by decide +kernel) rfl
theorem wf_X8_243 : Cond.fieldLinkNest RX8 243 (RXc 6) (TXc 6 3).2.1 (TXc 6 3).2.2.1 RX8 ∈ NW := inNW 288 (by decide +kernel) rfl
theorem wf_X8_30 : Cond.fieldLink RX8 30 (RXc 8) (TXc 8 4).2.1 (TXc 8 4).2.2.1 ∈ GW := inGW 310 (by decide +kernel) rfl
theorem wf_X8_37 : Cond.fieldLink RX8 37 (RXc 8) (TXc 8 5).2.1 (TXc 8 5).2.2.1 ∈ GW := inGW 311 (by decide +kernel) rfl
theorem wf_X8_44 : Cond.fieldLink RX8 44 (RXc 8) (TXc 8 6).2.1 (TXc 8 6).2.2.1 ∈ GW := inGW 312 (by decide +kernel) rfl
theorem wf_X8_51 : Cond.fieldLink RX8 51 (RXc 8) (TXc 8 7).2.1 (TXc 8 7).2.2.1 ∈ GW := inGW 313 (by decide +kernel) rfl
theorem wf_X8_58 : Cond.fieldLink RX8 58 (RXc 8) (TXc 8 8).2.1 (TXc 8 8).2.2.1 ∈ GW := inGW 314 (by decide +kernel) rfl
theorem wf_X8_91 : Cond.fieldLinkNest RX8 91 (RXc 7) (TXc 7 1).2.1 (TXc 7 1).2.2.1 RX8 ∈ NW := inNW 145 (by decide +kernel) rfl
theorem wf_X9_106 : Cond.fieldLink RX9 106 (RXc 9) (TXc 9 16).2.1 (TXc 9 16).2.2.1 ∈ GW := inGW 817 (by decide +kernel) rfl
theorem wf_X9_109 : Cond.fieldLink RX9 109 (RXc 9) (TXc 9 17).2.1 (TXc 9 17).2.2.1 ∈ GW := inGW 818 (by decide +kernel) rfl
theorem wf_X9_13 : Cond.fieldLink RX9 13 (RXc 9) (TXc 9 1).2.1 (TXc 9 1).2.2.1 ∈ GW := inGW 802 (by decide +kernel) rfl
theorem wf_X9_16 : Cond.fieldLink RX9 16 (RXc 9) (TXc 9 2).2.1 (TXc 9 2).2.2.1 ∈ GW := inGW 803 (by decide +kernel) rfl
theorem wf_X9_167 : Cond.fieldLink RX9 167 (RXc 9) (TXc 9 7).2.1 (TXc 9 7).2.2.1 ∈ GW := inGW 808 (by decide +kernel) rfl
theorem wf_X9_178 : Cond.fieldLink RX9 178 (RXc 9) (TXc 9 19).2.1 (TXc 9 19).2.2.1 ∈ GW := inGW 820 (by decide +kernel) rfl
theorem wf_X9_181 : Cond.fieldLink RX9 181 (RXc 9) (TXc 9 20).2.1 (TXc 9 20).2.2.1 ∈ GW := inGW 821 (by decide +kernel) rfl
theorem wf_X9_19 : Cond.fieldLink RX9 19 (RXc 9) (TXc 9 4).2.1 (TXc 9 4).2.2.1 ∈ GW := inGW 805 (by decide +kernel) rfl
theorem wf_X9_190 : Cond.fieldLink RX9 190 (RXc 9) (TXc 9 22).2.1 (TXc 9 22).2.2.1 ∈ GW := inGW 823 (by decide +kernel) rfl
theorem wf_X9_193 : Cond.fieldLink RX9 193 (RXc 9) (TXc 9 23).2.1 (TXc 9 23).2.2.1 ∈ GW := inGW 824 (by decide +kernel) rfl
theorem wf_X9_22 : Cond.fieldLink RX9 22 (RXc 9) (TXc 9 5).2.1 (TXc 9 5).2.2.1 ∈ GW := inGW 806 (by decide +kernel) rfl
theorem wf_X9_26 : Cond.fieldLink RX9 26 (RXc 9) (TXc 9 6).2.1 (TXc 9 6).2.2.1 ∈ GW := inGW 807 (by decide +kernel) rfl
theorem wf_X9_29 : Cond.fieldLink RX9 29 (RXc 9) (TXc 9 8).2.1 (TXc 9 8).2.2.1 ∈ GW := inGW 809 (by decide +kernel) rfl
theorem wf_X9_32 : Cond.fieldLink RX9 32 (RXc 9) (TXc 9 9).2.1 (TXc 9 9).2.2.1 ∈ GW := inGW 810 (by decide +kernel) rfl
theorem wf_X9_35 : Cond.fieldLink RX9 35 (RXc 9) (TXc 9 10).2.1 (TXc 9 10).2.2.1 ∈ GW := inGW 811 (by decide +kernel) rfl
theorem wf_X9_38 : Cond.fieldLink RX9 38 (RXc 9) (TXc 9 12).2.1 (TXc 9 12).2.2.1 ∈ GW := inGW 813 (by decide +kernel) rfl
theorem wf_X9_41 : Cond.fieldLink RX9 41 (RXc 9) (TXc 9 18).2.1 (TXc 9 18).2.2.1 ∈ GW := inGW 819 (by decide +kernel) rfl
theorem wf_X9_44 : Cond.fieldLink RX9 44 (RXc 9) (TXc 9 21).2.1 (TXc 9 21).2.2.1 ∈ GW := inGW 822 (by decide +kernel) rfl
theorem wf_X9_54 : Cond.fieldLink RX9 54 (RXc 9) (TXc 9 3).2.1 (TXc 9 3).2.2.1 ∈ GW := inGW 804 (by decide +kernel) rfl
theorem wf_X9_62 : Cond.fieldLink RX9 62 (RXc 9) (TXc 9 11).2.1 (TXc 9 11).2.2.1 ∈ GW := inGW 812 (by decide +kernel) rfl
theorem wf_X9_7 : Cond.fieldLink RX9 7 (RXc 9) (TXc 9 0).2.1 (TXc 9 0).2.2.1 ∈ GW := inGW 801 (by decide +kernel) rfl
theorem wf_X9_86 : Cond.fieldLink RX9 86 (RXc 9) (TXc 9 14).2.1 (TXc 9 14).2.2.1 ∈ GW := inGW 815 (by decide +kernel) rfl
theorem wf_X9_90 : Cond.fieldLink RX9 90 (RXc 9) (TXc 9 13).2.1 (TXc 9 13).2.2.1 ∈ GW := inGW 814 (by decide +kernel) rfl
theorem wf_X9_97 : Cond.fieldLink RX9 97 (RXc 9) (TXc 9 15).2.1 (TXc 9 15).2.2.1 ∈ GW := inGW 816 (by decide +kernel) rfl
theorem wg_X8_62 : Cond.fieldLink RX8 62 RX8 "HIGHEST_SETTINGS" "[I" ∈ GW := inGW 338 (by decide +kernel) rfl
theorem wl_X5_25 : Cond.constantLong RX5 25 (255) ∈ GW := inGW 758 (by decide +kernel) rfl
theorem wl_X9_176 : Cond.constantLong RX9 176 (255) ∈ GW := inGW 1056 (by decide +kernel) rfl
theorem wm_X0_15 : Cond.methodLink RX0 15 yX1_length ∈ GW := inGW 546 (by decide +kernel) rfl
theorem wm_X0_21 : Cond.methodLink RX0 21 yX1_wayFrom ∈ GW := inGW 547 (by decide +kernel) rfl
theorem wm_X0_25 : Cond.methodLink RX0 25 yX0_endOfRow ∈ GW := inGW 551 (by decide +kernel) rfl
theorem wm_X0_31 : Cond.methodLinkNest RX0 31 yX8_areOpposite RX8 ∈ NW := inNW 554 (by decide +kernel) rfl
theorem wm_X0_45 : Cond.methodLink RX0 45 yX0_seekFrom ∈ GW := inGW 670 (by decide +kernel) rfl
theorem wm_X0_9 : Cond.methodLink RX0 9 Lib.Math.max.name ∈ GW := inGW 543 (by decide +kernel) rfl
theorem wm_X1_25 : Cond.methodLink RX1 25 yJ7_fill_53178 ∈ GW := inGW 88 (by decide +kernel) rfl
theorem wm_X1_31 : Cond.methodLink RX1 31 arraycopyName ∈ GW := inGW 352 (by decide +kernel) rfl
theorem wm_X1_37 : Cond.methodLinkNest RX1 37 yX8_isOnLand RX8 ∈ NW := inNW 139 (by decide +kernel) rfl
theorem wm_X1_41 : Cond.methodLink RX1 41 yX1_cellOf ∈ GW := inGW 489 (by decide +kernel) rfl
theorem wm_X1_45 : Cond.methodLinkNest RX1 45 yX8_beside RX8 ∈ NW := inNW 493 (by decide +kernel) rfl
theorem wm_X1_49 : Cond.methodLink RX1 49 yX1_numberOf ∈ GW := inGW 494 (by decide +kernel) rfl
theorem wm_X1_52 : Cond.methodLink RX1 52 yX1_numberBeside ∈ GW := inGW 485 (by decide +kernel) rfl
theorem wm_X1_55 : Cond.methodLink RX1 55 Lib.Math.abs.name ∈ GW := inGW 718 (by decide +kernel) rfl
theorem wm_X1_60 : Cond.methodLink RX1 60 yX1_leaveBetween ∈ GW := inGW 517 (by decide +kernel) rfl
theorem wm_X1_64 : Cond.methodLink RX1 64 yX1_numberAgain ∈ GW := inGW 521 (by decide +kernel) rfl
theorem wm_X2_25 : Cond.methodLink RX2 25 yX7_copyFrom ∈ GW := inGW 344 (by decide +kernel) rfl
theorem wm_X3_15 : Cond.methodLink RX3 15 yX1_nextBeside ∈ GW := inGW 481 (by decide +kernel) rfl
theorem wm_X3_34 : Cond.methodLink RX3 34 yX1_numberBeside ∈ GW := inGW 635 (by decide +kernel) rfl
theorem wm_X3_37 : Cond.methodLink RX3 37 yX7_ageOf ∈ GW := inGW 636 (by decide +kernel) rfl
theorem wm_X3_9 : Cond.methodLink RX3 9 yX1_length ∈ GW := inGW 480 (by decide +kernel) rfl
theorem wm_X4_31 : Cond.methodLink RX4 31 yJ7_fill_53178 ∈ GW := inGW 112 (by decide +kernel) rfl
theorem wm_X4_37 : Cond.methodLink RX4 37 arraycopyName ∈ GW := inGW 357 (by decide +kernel) rfl
theorem wm_X4_43 : Cond.methodLinkNest RX4 43 yX8_isOnLand RX8 ∈ NW := inNW 512 (by decide +kernel) rfl
theorem wm_X4_47 : Cond.methodLink RX4 47 yX4_has ∈ GW := inGW 507 (by decide +kernel) rfl
theorem wm_X4_50 : Cond.methodLink RX4 50 yX4_drop ∈ GW := inGW 503 (by decide +kernel) rfl
theorem wm_X4_54 : Cond.methodLink RX4 54 yX1_cellOf ∈ GW := inGW 511 (by decide +kernel) rfl
theorem wm_X4_60 : Cond.methodLink RX4 60 Lib.Math.min.name ∈ GW := inGW 645 (by decide +kernel) rfl
theorem wm_X5_30 : Cond.methodLink RX5 30 yX5_scanNumber ∈ GW := inGW 374 (by decide +kernel) rfl
theorem wm_X5_40 : Cond.methodLink RX5 40 yX5_scanSteps ∈ GW := inGW 386 (by decide +kernel) rfl
theorem wm_X5_44 : Cond.methodLink RX5 44 yX5_digitAt ∈ GW := inGW 378 (by decide +kernel) rfl
theorem wm_X5_48 : Cond.methodLink RX5 48 yX5_signAt ∈ GW := inGW 382 (by decide +kernel) rfl
theorem wm_X5_51 : Cond.methodLink RX5 51 yX5_wayAt ∈ GW := inGW 390 (by decide +kernel) rfl
theorem wm_X5_54 : Cond.methodLink RX5 54 yX5_addSteps ∈ GW := inGW 394 (by decide +kernel) rfl
theorem wm_X5_58 : Cond.methodLinkNest RX5 58 yX8_cellAt RX8 ∈ NW := inNW 414 (by decide +kernel) rfl
theorem wm_X5_62 : Cond.methodLink RX5 62 yX1_append ∈ GW := inGW 415 (by decide +kernel) rfl
theorem wm_X5_68 : Cond.methodLinkNest RX5 68 yX8_beside RX8 ∈ NW := inNW 416 (by decide +kernel) rfl
theorem wm_X6_102 : Cond.methodLink RX6 102 yX7_bankCell ∈ GW := inGW 606 (by decide +kernel) rfl
theorem wm_X6_106 : Cond.methodLink RX6 106 yX1_length ∈ GW := inGW 630 (by decide +kernel) rfl
theorem wm_X6_112 : Cond.methodLink RX6 112 yX3_seekWidest ∈ GW := inGW 631 (by decide +kernel) rfl
theorem wm_X6_122 : Cond.methodLink RX6 122 yX7_cutBetween ∈ GW := inGW 640 (by decide +kernel) rfl
theorem wm_X6_38 : Cond.methodLink RX6 38 yX7_hasFlood ∈ GW := inGW 533 (by decide +kernel) rfl
theorem wm_X6_42 : Cond.methodLink RX6 42 yX6_wearBanks ∈ GW := inGW 534 (by decide +kernel) rfl
theorem wm_X6_46 : Cond.methodLink RX6 46 yX6_growBends ∈ GW := inGW 583 (by decide +kernel) rfl
theorem wm_X6_50 : Cond.methodLink RX6 50 yX7_agePairs ∈ GW := inGW 616 (by decide +kernel) rfl
theorem wm_X6_53 : Cond.methodLink RX6 53 yX6_cutNecks ∈ GW := inGW 626 (by decide +kernel) rfl
theorem wm_X6_60 : Cond.methodLink RX6 60 yX7_setting ∈ GW := inGW 538 (by decide +kernel) rfl
theorem wm_X6_64 : Cond.methodLink RX6 64 yX4_passYear ∈ GW := inGW 641 (by decide +kernel) rfl
theorem wm_X6_74 : Cond.methodLink RX6 74 yX0_seekFrom ∈ GW := inGW 539 (by decide +kernel) rfl
theorem wm_X6_78 : Cond.methodLink RX6 78 yX7_isFirm ∈ GW := inGW 560 (by decide +kernel) rfl
theorem wm_X6_82 : Cond.methodLink RX6 82 yX7_wearBank ∈ GW := inGW 572 (by decide +kernel) rfl
theorem wm_X6_89 : Cond.methodLink RX6 89 yX7_canGrow ∈ GW := inGW 587 (by decide +kernel) rfl
theorem wm_X6_92 : Cond.methodLink RX6 92 yX6_noteTaken ∈ GW := inGW 602 (by decide +kernel) rfl
theorem wm_X6_95 : Cond.methodLink RX6 95 yX7_growBend ∈ GW := inGW 607 (by decide +kernel) rfl
theorem wm_X7_102 : Cond.methodLink RX7 102 yX7_removeFlood ∈ GW := inGW 468 (by decide +kernel) rfl
theorem wm_X7_105 : Cond.methodLink RX7 105 yX1_cellOf ∈ GW := inGW 568 (by decide +kernel) rfl
theorem wm_X7_114 : Cond.methodLinkNest RX7 114 yX8_beside RX8 ∈ NW := inNW 569 (by decide +kernel) rfl
theorem wm_X7_123 : Cond.methodLink RX7 123 yX7_bankCell ∈ GW := inGW 564 (by decide +kernel) rfl
theorem wm_X7_127 : Cond.methodLink RX7 127 yX7_isDike ∈ GW := inGW 570 (by decide +kernel) rfl
theorem wm_X7_130 : Cond.methodLink RX7 130 yX1_numberOf ∈ GW := inGW 571 (by decide +kernel) rfl
theorem wm_X7_133 : Cond.methodLink RX7 133 yX7_wearOf ∈ GW := inGW 597 (by decide +kernel) rfl
theorem wm_X7_136 : Cond.methodLink RX7 136 Lib.Math.min.name ∈ GW := inGW 580 (by decide +kernel) rfl
theorem wm_X7_141 : Cond.methodLink RX7 141 yX1_length ∈ GW := inGW 591 (by decide +kernel) rfl
theorem wm_X7_145 : Cond.methodLink RX7 145 yX7_isFirm ∈ GW := inGW 592 (by decide +kernel) rfl
theorem wm_X7_149 : Cond.methodLink RX7 149 yX7_leastWear ∈ GW := inGW 593 (by decide +kernel) rfl
theorem wm_X7_153 : Cond.methodLink RX7 153 yX7_setting ∈ GW := inGW 601 (by decide +kernel) rfl
theorem wm_X7_156 : Cond.methodLink RX7 156 yX4_ownerOf ∈ GW := inGW 576 (by decide +kernel) rfl
theorem wm_X7_159 : Cond.methodLink RX7 159 yX4_drop ∈ GW := inGW 611 (by decide +kernel) rfl
theorem wm_X7_162 : Cond.methodLink RX7 162 yX1_bulge ∈ GW := inGW 612 (by decide +kernel) rfl
theorem wm_X7_166 : Cond.methodLink RX7 166 Lib.Math.abs.name ∈ GW := inGW 625 (by decide +kernel) rfl
theorem wm_X7_169 : Cond.methodLink RX7 169 yX7_pairOf ∈ GW := inGW 621 (by decide +kernel) rfl
theorem wm_X7_172 : Cond.methodLink RX7 172 yX1_numberBeside ∈ GW := inGW 620 (by decide +kernel) rfl
theorem wm_X7_175 : Cond.methodLink RX7 175 yX4_take ∈ GW := inGW 499 (by decide +kernel) rfl
theorem wm_X7_179 : Cond.methodLink RX7 179 yX1_shorten ∈ GW := inGW 513 (by decide +kernel) rfl
theorem wm_X7_47 : Cond.methodLink RX7 47 arraycopyName ∈ GW := inGW 129 (by decide +kernel) rfl
theorem wm_X7_61 : Cond.methodLink RX7 61 yX1_copyFrom ∈ GW := inGW 348 (by decide +kernel) rfl
theorem wm_X7_65 : Cond.methodLink RX7 65 yX4_copyFrom ∈ GW := inGW 353 (by decide +kernel) rfl
theorem wm_X7_81 : Cond.methodLink RX7 81 yX1_clear ∈ GW := inGW 407 (by decide +kernel) rfl
theorem wm_X7_84 : Cond.methodLink RX7 84 yX4_clear ∈ GW := inGW 408 (by decide +kernel) rfl
theorem wm_X7_85 : Cond.methodLink RX7 85 yJ7_fill_53178 ∈ GW := inGW 409 (by decide +kernel) rfl
theorem wm_X7_91 : Cond.methodLinkNest RX7 91 yX8_isOnLand RX8 ∈ NW := inNW 440 (by decide +kernel) rfl
theorem wm_X7_94 : Cond.methodLinkNest RX7 94 yX8_asNumber RX8 ∈ NW := inNW 445 (by decide +kernel) rfl
theorem wm_X7_98 : Cond.methodLink RX7 98 yX7_addFlood ∈ GW := inGW 464 (by decide +kernel) rfl
theorem wm_X8_102 : Cond.methodLink RX8 102 yX1_length ∈ GW := inGW 423 (by decide +kernel) rfl
theorem wm_X8_107 : Cond.methodLink RX8 107 yX8_cellAt ∈ GW := inGW 431 (by decide +kernel) rfl
theorem wm_X8_111 : Cond.methodLink RX8 111 yX1_numberOf ∈ GW := inGW 432 (by decide +kernel) rfl
theorem wm_X8_114 : Cond.methodLink RX8 114 yX7_isDike ∈ GW := inGW 436 (by decide +kernel) rfl
theorem wm_X8_118 : Cond.methodLink RX8 118 yX7_changeDike ∈ GW := inGW 441 (by decide +kernel) rfl
theorem wm_X8_122 : Cond.methodLink RX8 122 yX7_dikeCount ∈ GW := inGW 448 (by decide +kernel) rfl
theorem wm_X8_129 : Cond.methodLink RX8 129 yX7_hasFlood ∈ GW := inGW 456 (by decide +kernel) rfl
theorem wm_X8_135 : Cond.methodLink RX8 135 yX7_changeFlood ∈ GW := inGW 460 (by decide +kernel) rfl
theorem wm_X8_138 : Cond.methodLink RX8 138 yX3_seekNumbered ∈ GW := inGW 476 (by decide +kernel) rfl
theorem wm_X8_148 : Cond.methodLink RX8 148 yX7_cutBetween ∈ GW := inGW 495 (by decide +kernel) rfl
theorem wm_X8_154 : Cond.methodLink RX8 154 yX6_passYear ∈ GW := inGW 529 (by decide +kernel) rfl
theorem wm_X8_157 : Cond.methodLink RX8 157 yX8_orNone ∈ GW := inGW 650 (by decide +kernel) rfl
theorem wm_X8_160 : Cond.methodLink RX8 160 yX7_wearOf ∈ GW := inGW 653 (by decide +kernel) rfl
theorem wm_X8_163 : Cond.methodLink RX8 163 yX8_asNumber ∈ GW := inGW 654 (by decide +kernel) rfl
theorem wm_X8_171 : Cond.methodLink RX8 171 yX4_ownerOf ∈ GW := inGW 655 (by decide +kernel) rfl
theorem wm_X8_176 : Cond.methodLink RX8 176 yX1_cellOf ∈ GW := inGW 660 (by decide +kernel) rfl
theorem wm_X8_179 : Cond.methodLink RX8 179 yX1_wayFrom ∈ GW := inGW 661 (by decide +kernel) rfl
theorem wm_X8_182 : Cond.methodLink RX8 182 yX0_seekNumbered ∈ GW := inGW 666 (by decide +kernel) rfl
theorem wm_X8_192 : Cond.methodLink RX8 192 yX7_isFirm ∈ GW := inGW 671 (by decide +kernel) rfl
theorem wm_X8_196 : Cond.methodLink RX8 196 yX7_leastWear ∈ GW := inGW 672 (by decide +kernel) rfl
theorem wm_X8_200 : Cond.methodLink RX8 200 yX7_canGrow ∈ GW := inGW 673 (by decide +kernel) rfl
theorem wm_X8_203 : Cond.methodLink RX8 203 yX7_ageOf ∈ GW := inGW 678 (by decide +kernel) rfl
theorem wm_X8_206 : Cond.methodLink RX8 206 yX4_has ∈ GW := inGW 683 (by decide +kernel) rfl
theorem wm_X8_209 : Cond.methodLink RX8 209 yX4_sizeOf ∈ GW := inGW 684 (by decide +kernel) rfl
theorem wm_X8_212 : Cond.methodLink RX8 212 yX4_yearsOf ∈ GW := inGW 688 (by decide +kernel) rfl
theorem wm_X8_215 : Cond.methodLink RX8 215 yX4_firstCellOf ∈ GW := inGW 692 (by decide +kernel) rfl
theorem wm_X8_218 : Cond.methodLink RX8 218 yX8_countBends ∈ GW := inGW 700 (by decide +kernel) rfl
theorem wm_X8_221 : Cond.methodLink RX8 221 yX8_countNecks ∈ GW := inGW 705 (by decide +kernel) rfl
theorem wm_X8_224 : Cond.methodLink RX8 224 yX4_length ∈ GW := inGW 710 (by decide +kernel) rfl
theorem wm_X8_228 : Cond.methodLink RX8 228 yX1_winding ∈ GW := inGW 714 (by decide +kernel) rfl
theorem wm_X8_231 : Cond.methodLink RX8 231 yX7_wearSum ∈ GW := inGW 719 (by decide +kernel) rfl
theorem wm_X8_234 : Cond.methodLink RX8 234 yX5_length ∈ GW := inGW 723 (by decide +kernel) rfl
theorem wm_X8_235 : Cond.methodLink RX8 235 yX2_length ∈ GW := inGW 727 (by decide +kernel) rfl
theorem wm_X8_239 : Cond.methodLink RX8 239 yX6_watch ∈ GW := inGW 747 (by decide +kernel) rfl
theorem wm_X8_247 : Cond.methodLink RX8 247 yX5_sizeOf ∈ GW := inGW 755 (by decide +kernel) rfl
theorem wm_X8_250 : Cond.methodLink RX8 250 yX5_hasRoomFor ∈ GW := inGW 759 (by decide +kernel) rfl
theorem wm_X8_253 : Cond.methodLink RX8 253 yX5_append ∈ GW := inGW 763 (by decide +kernel) rfl
theorem wm_X8_257 : Cond.methodLink RX8 257 yX2_takeBack ∈ GW := inGW 779 (by decide +kernel) rfl
theorem wm_X8_261 : Cond.methodLink RX8 261 yX0_seekFrom ∈ GW := inGW 704 (by decide +kernel) rfl
theorem wm_X8_264 : Cond.methodLink RX8 264 yX1_numberBeside ∈ GW := inGW 709 (by decide +kernel) rfl
theorem wm_X8_267 : Cond.methodLink RX8 267 Lib.Math.abs.name ∈ GW := inGW 557 (by decide +kernel) rfl
theorem wm_X8_66 : Cond.methodLink RX8 66 yX2_remember ∈ GW := inGW 340 (by decide +kernel) rfl
theorem wm_X8_70 : Cond.methodLink RX8 70 yX7_setting ∈ GW := inGW 358 (by decide +kernel) rfl
theorem wm_X8_74 : Cond.methodLink RX8 74 yX7_changeSetting ∈ GW := inGW 362 (by decide +kernel) rfl
theorem wm_X8_78 : Cond.methodLink RX8 78 yX5_scan ∈ GW := inGW 370 (by decide +kernel) rfl
theorem wm_X8_82 : Cond.methodLink RX8 82 yX5_stepCount ∈ GW := inGW 398 (by decide +kernel) rfl
theorem wm_X8_85 : Cond.methodLink RX8 85 yX7_copyFrom ∈ GW := inGW 402 (by decide +kernel) rfl
theorem wm_X8_88 : Cond.methodLink RX8 88 yX7_clearAllButSettings ∈ GW := inGW 403 (by decide +kernel) rfl
theorem wm_X8_95 : Cond.methodLink RX8 95 yX5_layCourse ∈ GW := inGW 410 (by decide +kernel) rfl
theorem wm_X8_99 : Cond.methodLink RX8 99 yX5_clear ∈ GW := inGW 419 (by decide +kernel) rfl
theorem wm_X9_100 : Cond.methodLink RX9 100 yX9_areNeighbours ∈ GW := inGW 916 (by decide +kernel) rfl
theorem wm_X9_103 : Cond.methodLink RX9 103 yX9_pair ∈ GW := inGW 919 (by decide +kernel) rfl
theorem wm_X9_112 : Cond.methodLink RX9 112 yX9_findBends ∈ GW := inGW 942 (by decide +kernel) rfl
theorem wm_X9_115 : Cond.methodLink RX9 115 yX9_isFloodYear ∈ GW := inGW 904 (by decide +kernel) rfl
theorem wm_X9_118 : Cond.methodLink RX9 118 yX9_canGrow ∈ GW := inGW 969 (by decide +kernel) rfl
theorem wm_X9_121 : Cond.methodLink RX9 121 yX9_grow ∈ GW := inGW 977 (by decide +kernel) rfl
theorem wm_X9_124 : Cond.methodLink RX9 124 yX9_wear ∈ GW := inGW 938 (by decide +kernel) rfl
theorem wm_X9_127 : Cond.methodLink RX9 127 yX9_growAll ∈ GW := inGW 965 (by decide +kernel) rfl
theorem wm_X9_130 : Cond.methodLink RX9 130 yX9_age ∈ GW := inGW 981 (by decide +kernel) rfl
theorem wm_X9_133 : Cond.methodLink RX9 133 yX9_findNeck ∈ GW := inGW 912 (by decide +kernel) rfl
theorem wm_X9_136 : Cond.methodLink RX9 136 yX9_cutNeck ∈ GW := inGW 922 (by decide +kernel) rfl
theorem wm_X9_139 : Cond.methodLink RX9 139 yX9_know ∈ GW := inGW 881 (by decide +kernel) rfl
theorem wm_X9_142 : Cond.methodLink RX9 142 yX9_numberOf ∈ GW := inGW 892 (by decide +kernel) rfl
theorem wm_X9_145 : Cond.methodLink RX9 145 yX9_dikes ∈ GW := inGW 896 (by decide +kernel) rfl
theorem wm_X9_149 : Cond.methodLink RX9 149 yX9_goOn ∈ GW := inGW 934 (by decide +kernel) rfl
theorem wm_X9_152 : Cond.methodLink RX9 152 yX9_apart ∈ GW := inGW 1021 (by decide +kernel) rfl
theorem wm_X9_155 : Cond.methodLink RX9 155 yX9_firm ∈ GW := inGW 1009 (by decide +kernel) rfl
theorem wm_X9_158 : Cond.methodLink RX9 158 yX9_allNecks ∈ GW := inGW 1013 (by decide +kernel) rfl
theorem wm_X9_161 : Cond.methodLink RX9 161 yX9_winding ∈ GW := inGW 1017 (by decide +kernel) rfl
theorem wm_X9_164 : Cond.methodLink RX9 164 yX9_allWear ∈ GW := inGW 1024 (by decide +kernel) rfl
theorem wm_X9_170 : Cond.methodLink RX9 170 yX9_putAside ∈ GW := inGW 1036 (by decide +kernel) rfl
theorem wm_X9_173 : Cond.methodLink RX9 173 yX9_putBack ∈ GW := inGW 1040 (by decide +kernel) rfl
theorem wm_X9_184 : Cond.methodLink RX9 184 yX9_sign ∈ GW := inGW 1073 (by decide +kernel) rfl
theorem wm_X9_187 : Cond.methodLink RX9 187 yX9_isNext ∈ GW := inGW 1077 (by decide +kernel) rfl
theorem wm_X9_196 : Cond.methodLink RX9 196 yX9_number ∈ GW := inGW 1069 (by decide +kernel) rfl
theorem wm_X9_199 : Cond.methodLink RX9 199 yX9_tell ∈ GW := inGW 1081 (by decide +kernel) rfl
theorem wm_X9_202 : Cond.methodLink RX9 202 yX9_readPad ∈ GW := inGW 1065 (by decide +kernel) rfl
theorem wm_X9_47 : Cond.methodLink RX9 47 yX9_begin ∈ GW := inGW 797 (by decide +kernel) rfl
theorem wm_X9_50 : Cond.methodLink RX9 50 yX9_in ∈ GW := inGW 878 (by decide +kernel) rfl
theorem wm_X9_58 : Cond.methodLink RX9 58 yX9_isCell ∈ GW := inGW 889 (by decide +kernel) rfl
theorem wm_X9_65 : Cond.methodLink RX9 65 yX9_way ∈ GW := inGW 946 (by decide +kernel) rfl
theorem wm_X9_69 : Cond.methodLink RX9 69 yX9_wayOf ∈ GW := inGW 958 (by decide +kernel) rfl
theorem wm_X9_72 : Cond.methodLink RX9 72 yX9_stepped ∈ GW := inGW 962 (by decide +kernel) rfl
theorem wm_X9_76 : Cond.methodLink RX9 76 yX9_bank ∈ GW := inGW 954 (by decide +kernel) rfl
theorem wm_X9_79 : Cond.methodLink RX9 79 yX9_isFirm ∈ GW := inGW 950 (by decide +kernel) rfl
theorem wm_X9_83 : Cond.methodLink RX9 83 yX9_leastWear ∈ GW := inGW 973 (by decide +kernel) rfl
theorem wm_X9_93 : Cond.methodLink RX9 93 yX9_dropOxbow ∈ GW := inGW 926 (by decide +kernel) rfl
theorem wSn : Cond.native arraycopyName ∈ GW := inGW 131 (by decide +kernel) rfl
theorem wSs : Cond.static arraycopyName ∈ GW := inGW 130 (by decide +kernel) rfl
theorem wSi : Cond.initialized "java/lang/System" ∈ GW := inGW 54 (by decide +kernel) rfl
theorem wMi : Cond.initialized "java/lang/Math" ∈ GW := inGW 61 (by decide +kernel) rfl
theorem wMs_max : Cond.static Lib.Math.max.name ∈ GW := inGW 544 (by decide +kernel) rfl
theorem wMc_max : Cond.code Lib.Math.max.name Lib.Math.max.code 2 (some .int) ∈ GW := inGW 545 (by decide +kernel) rfl
theorem wMs_min : Cond.static Lib.Math.min.name ∈ GW := inGW 581 (by decide +kernel) rfl
theorem wMc_min : Cond.code Lib.Math.min.name Lib.Math.min.code 2 (some .int) ∈ GW := inGW 582 (by decide +kernel) rfl
theorem wMs_abs : Cond.static Lib.Math.abs.name ∈ GW := inGW 558 (by decide +kernel) rfl
theorem wMc_abs : Cond.code Lib.Math.abs.name Lib.Math.abs.code 1 (some .int) ∈ GW := inGW 559 (by decide +kernel) rfl
end
section
set_option maxRecDepth 20000 in
theorem v_X8_orNone_0 {g : zGG} {Q : Int → zMem → Prop} {d : zMem} {x0 : Int}  (h : ((inR x0) ∧ (x0 ≠ (-1) → Q x0 d) ∧ (x0 = (-1) → Q (-6) d))) : Fr g (eM g M_X8_orNone FUL FUL Q) M_X8_orNone FUL 0 [some (zI x0)] [] d := by
  refine z_iload_n (i := 0) dX8_orNone_0 rfl rfl ?_
  refine z_iconst dX8_orNone_1 ?_
  refine zb_icmp_ne (tgt := 10) dX8_orNone_2 (by decide) ⟨h.1, by decide⟩ ⟨fun c => ?_, fun c => ?_⟩
  · replace h := h.2.1 c
    refine z_iload_n (i := 0) dX8_orNone_10 rfl rfl ?_
    exact zret_i rfl dX8_orNone_11 h
  · replace h := h.2.2 c
    refine z_bipush dX8_orNone_5 (by decide +kernel) ?_
    refine z_goto (tgt := 11) dX8_orNone_7 (by decide) ?_
    exact zret_i rfl dX8_orNone_11 h
theorem e_X8_orNone {g : zGG} {Q : Int → zMem → Prop} {d : zMem} {x0 : Int} (h : ((inR x0) ∧ (x0 ≠ (-1) → Q x0 d) ∧ (x0 = (-1) → Q (-6) d))) : Ev g M_X8_orNone FUL FUL [zI x0] d Q :=
  Ev_of (by decide +kernel) (Nat.le_of_ble_eq_true rfl) (v_X8_orNone_0  h)
set_option maxRecDepth 20000 in
theorem v_X8_asNumber_0 {g : zGG} {Q : Int → zMem → Prop} {d : zMem} {x0 : Int}  (h : ((inR x0) ∧ (x0 = 0 → Q 0 d) ∧ (x0 ≠ 0 → Q 1 d))) : Fr g (eM g M_X8_asNumber FUL FUL Q) M_X8_asNumber FUL 0 [some (zI x0)] [] d := by
  refine z_iload_n (i := 0) dX8_asNumber_0 rfl rfl ?_
  refine zb_if_eq (tgt := 8) dX8_asNumber_1 (by decide) h.1 ⟨fun c => ?_, fun c => ?_⟩
  · replace h := h.2.1 c
    refine z_iconst dX8_asNumber_8 ?_
    exact zret_i rfl dX8_asNumber_9 h
  · replace h := h.2.2 c
    refine z_iconst dX8_asNumber_4 ?_
    refine z_goto (tgt := 9) dX8_asNumber_5 (by decide) ?_
    exact zret_i rfl dX8_asNumber_9 h
theorem e_X8_asNumber {g : zGG} {Q : Int → zMem → Prop} {d : zMem} {x0 : Int} (h : ((inR x0) ∧ (x0 = 0 → Q 0 d) ∧ (x0 ≠ 0 → Q 1 d))) : Ev g M_X8_asNumber FUL FUL [zI x0] d Q :=
  Ev_of (by decide +kernel) (Nat.le_of_ble_eq_true rfl) (v_X8_asNumber_0  h)
set_option maxRecDepth 20000 in
theorem v_X8_cellAt_0 {g : zGG} {φ : zPhi} {Q : Int → zMem → Prop} {d : zMem} {x0 : Int} {x1 : Int}  (h : ((inR x0) ∧ (x0 < 0 → Q (-1) d) ∧ (0 ≤ x0 → ((inR x0) ∧ (20 ≤ x0 → Q (-1) d) ∧ (x0 < 20 → ((inR x1) ∧ (x1 < 0 → Q (-1) d) ∧ (0 ≤ x1 → ((inR x1) ∧ (x1 < 12 → Q ((x1 * 20) + x0) d) ∧ (12 ≤ x1 → Q (-1) d))))))))) : Fr g (eM g M_X8_cellAt φ φ Q) M_X8_cellAt φ 0 [some (zI x0), some (zI x1)] [] d := by
  refine z_iload_n (i := 0) dX8_cellAt_0 rfl rfl ?_
  refine zb_if_lt (tgt := 20) dX8_cellAt_1 (by decide) h.1 ⟨fun c => ?_, fun c => ?_⟩
  · replace h := h.2.1 c
    refine z_iconst dX8_cellAt_20 ?_
    exact zret_i rfl dX8_cellAt_21 h
  · replace h := h.2.2 c
    refine z_iload_n (i := 0) dX8_cellAt_4 rfl rfl ?_
    refine z_bipush dX8_cellAt_5 (by decide +kernel) ?_
    refine zb_icmp_ge (tgt := 20) dX8_cellAt_7 (by decide) ⟨h.1, by decide⟩ ⟨fun c => ?_, fun c => ?_⟩
    · replace h := h.2.1 c
      refine z_iconst dX8_cellAt_20 ?_
      exact zret_i rfl dX8_cellAt_21 h
    · replace h := h.2.2 c
      refine z_iload_n (i := 1) dX8_cellAt_10 rfl rfl ?_
      refine zb_if_lt (tgt := 20) dX8_cellAt_11 (by decide) h.1 ⟨fun c => ?_, fun c => ?_⟩
      · replace h := h.2.1 c
        refine z_iconst dX8_cellAt_20 ?_
        exact zret_i rfl dX8_cellAt_21 h
      · replace h := h.2.2 c
        refine z_iload_n (i := 1) dX8_cellAt_14 rfl rfl ?_
        refine z_bipush dX8_cellAt_15 (by decide +kernel) ?_
        refine zb_icmp_lt (tgt := 22) dX8_cellAt_17 (by decide) ⟨h.1, by decide⟩ ⟨fun c => ?_, fun c => ?_⟩
        · replace h := h.2.1 c
          refine z_iload_n (i := 1) dX8_cellAt_22 rfl rfl ?_
          refine z_bipush dX8_cellAt_23 (by decide +kernel) ?_
          refine z_imul dX8_cellAt_25 ?_
          refine z_iload_n (i := 0) dX8_cellAt_26 rfl rfl ?_
          refine z_iadd dX8_cellAt_27 ?_
          exact zret_i rfl dX8_cellAt_28 h
        · replace h := h.2.2 c
          refine z_iconst dX8_cellAt_20 ?_
          exact zret_i rfl dX8_cellAt_21 h
theorem e_X8_cellAt {g : zGG} {φ : zPhi} {Q : Int → zMem → Prop} {d : zMem} {x0 : Int} {x1 : Int} (h : ((inR x0) ∧ (x0 < 0 → Q (-1) d) ∧ (0 ≤ x0 → ((inR x0) ∧ (20 ≤ x0 → Q (-1) d) ∧ (x0 < 20 → ((inR x1) ∧ (x1 < 0 → Q (-1) d) ∧ (0 ≤ x1 → ((inR x1) ∧ (x1 < 12 → Q ((x1 * 20) + x0) d) ∧ (12 ≤ x1 → Q (-1) d))))))))) : Ev g M_X8_cellAt φ φ [zI x0, zI x1] d Q :=
  Ev_of (by decide +kernel) (Nat.le_of_ble_eq_true rfl) (v_X8_cellAt_0  h)
set_option maxRecDepth 20000 in
theorem v_X8_isOnLand_0 {g : zGG} {φ : zPhi} {Q : Int → zMem → Prop} {d : zMem} {x0 : Int}  (h : ((inR x0) ∧ (x0 < 0 → Q 0 d) ∧ (0 ≤ x0 → ((inR x0) ∧ (240 ≤ x0 → Q 0 d) ∧ (x0 < 240 → Q 1 d))))) : Fr g (eM g M_X8_isOnLand φ φ Q) M_X8_isOnLand φ 0 [some (zI x0)] [] d := by
  refine z_iload_n (i := 0) dX8_isOnLand_0 rfl rfl ?_
  refine zb_if_lt (tgt := 15) dX8_isOnLand_1 (by decide) h.1 ⟨fun c => ?_, fun c => ?_⟩
  · replace h := h.2.1 c
    refine z_iconst dX8_isOnLand_15 ?_
    exact zret_z rfl dX8_isOnLand_16 (by decide) h
  · replace h := h.2.2 c
    refine z_iload_n (i := 0) dX8_isOnLand_4 rfl rfl ?_
    refine z_sipush dX8_isOnLand_5 (by decide +kernel) ?_
    refine zb_icmp_ge (tgt := 15) dX8_isOnLand_8 (by decide) ⟨h.1, by decide⟩ ⟨fun c => ?_, fun c => ?_⟩
    · replace h := h.2.1 c
      refine z_iconst dX8_isOnLand_15 ?_
      exact zret_z rfl dX8_isOnLand_16 (by decide) h
    · replace h := h.2.2 c
      refine z_iconst dX8_isOnLand_11 ?_
      refine z_goto (tgt := 16) dX8_isOnLand_12 (by decide) ?_
      exact zret_z rfl dX8_isOnLand_16 (by decide) h
theorem e_X8_isOnLand {g : zGG} {φ : zPhi} {Q : Int → zMem → Prop} {d : zMem} {x0 : Int} (h : ((inR x0) ∧ (x0 < 0 → Q 0 d) ∧ (0 ≤ x0 → ((inR x0) ∧ (240 ≤ x0 → Q 0 d) ∧ (x0 < 240 → Q 1 d))))) : Ev g M_X8_isOnLand φ φ [zI x0] d Q :=
  Ev_of (by decide +kernel) (Nat.le_of_ble_eq_true rfl) (v_X8_isOnLand_0  h)
set_option maxRecDepth 20000 in
theorem v_X8_beside_0 {g : zGG} {Q : Int → zMem → Prop} {d : zMem} {x0 : Int} {x1 : Int}  (h : ((inR x0) ∧ (x0 < 0 → Q (-1) d) ∧ (0 ≤ x0 → ((inR x0) ∧ (x0 < 240 → ((inR x1) ∧ ((x1 < 0 ∨ 3 < x1) → Q (-1) d) ∧ (x1 = 0 → (0 ≤ x0 ∧ inR x0) ∧ ((inR (x0 % 20)) ∧ (19 ≤ (x0 % 20) → Q (-1) d) ∧ ((x0 % 20) < 19 → Q (x0 + 1) d))) ∧ (x1 = 1 → ((inR (x0 + 20)) ∧ (240 ≤ (x0 + 20) → Q (-1) d) ∧ ((x0 + 20) < 240 → Q (x0 + 20) d))) ∧ (x1 = 2 → (0 ≤ x0 ∧ inR x0) ∧ ((inR (x0 % 20)) ∧ ((x0 % 20) ≤ 0 → Q (-1) d) ∧ (0 < (x0 % 20) → Q (x0 - 1) d))) ∧ (x1 = 3 → ((inR x0) ∧ (x0 < 20 → Q (-1) d) ∧ (20 ≤ x0 → Q (x0 - 20) d))))) ∧ (240 ≤ x0 → Q (-1) d))))) : Fr g (eM g M_X8_beside FUL FUL Q) M_X8_beside FUL 0 [some (zI x0), some (zI x1)] [] d := by
  refine z_iload_n (i := 0) dX8_beside_0 rfl rfl ?_
  refine zb_if_lt (tgt := 11) dX8_beside_1 (by decide) h.1 ⟨fun c => ?_, fun c => ?_⟩
  · replace h := h.2.1 c
    refine z_iconst dX8_beside_11 ?_
    exact zret_i rfl dX8_beside_12 h
  · replace h := h.2.2 c
    refine z_iload_n (i := 0) dX8_beside_4 rfl rfl ?_
    refine z_sipush dX8_beside_5 (by decide +kernel) ?_
    refine zb_icmp_lt (tgt := 13) dX8_beside_8 (by decide) ⟨h.1, by decide⟩ ⟨fun c => ?_, fun c => ?_⟩
    · replace h := h.2.1 c
      refine z_iload_n (i := 1) dX8_beside_13 rfl rfl ?_
      have hr := h.1
      rcases (show (x1 < 0 ∨ 3 < x1) ∨ x1 = 0 ∨ x1 = 1 ∨ x1 = 2 ∨ x1 = 3 by omega) with c | c | c | c | c
      · replace h := h.2.1 c
        refine z_tsOut (tgt := 110) dX8_beside_14 (by decide) hr c ?_
        refine z_iconst dX8_beside_110 ?_
        exact zret_i rfl dX8_beside_111 h
      · replace h := h.2.2.1 c
        refine z_tsCase (0) (off := 30) (tgt := 44) dX8_beside_14 rfl (by decide) (by decide) c ?_
        refine z_iload_n (i := 0) dX8_beside_44 rfl rfl ?_
        refine z_bipush dX8_beside_45 (by decide +kernel) ?_
        refine z_irem dX8_beside_47 ⟨h.1.1, h.1.2, by decide, by decide⟩ ?_
        replace h := h.2
        refine z_bipush dX8_beside_48 (by decide +kernel) ?_
        refine zb_icmp_ge (tgt := 59) dX8_beside_50 (by decide) ⟨h.1, by decide⟩ ⟨fun c => ?_, fun c => ?_⟩
        · replace h := h.2.1 c
          refine z_iconst dX8_beside_59 ?_
          exact zret_i rfl dX8_beside_60 h
        · replace h := h.2.2 c
          refine z_iload_n (i := 0) dX8_beside_53 rfl rfl ?_
          refine z_iconst dX8_beside_54 ?_
          refine z_iadd dX8_beside_55 ?_
          refine z_goto (tgt := 60) dX8_beside_56 (by decide) ?_
          exact zret_i rfl dX8_beside_60 h
      · replace h := h.2.2.2.1 c
        refine z_tsCase (1) (off := 47) (tgt := 61) dX8_beside_14 rfl (by decide) (by decide) c ?_
        refine z_iload_n (i := 0) dX8_beside_61 rfl rfl ?_
        refine z_bipush dX8_beside_62 (by decide +kernel) ?_
        refine z_iadd dX8_beside_64 ?_
        refine z_sipush dX8_beside_65 (by decide +kernel) ?_
        refine zb_icmp_ge (tgt := 78) dX8_beside_68 (by decide) ⟨h.1, by decide⟩ ⟨fun c => ?_, fun c => ?_⟩
        · replace h := h.2.1 c
          refine z_iconst dX8_beside_78 ?_
          exact zret_i rfl dX8_beside_79 h
        · replace h := h.2.2 c
          refine z_iload_n (i := 0) dX8_beside_71 rfl rfl ?_
          refine z_bipush dX8_beside_72 (by decide +kernel) ?_
          refine z_iadd dX8_beside_74 ?_
          refine z_goto (tgt := 79) dX8_beside_75 (by decide) ?_
          exact zret_i rfl dX8_beside_79 h
      · replace h := h.2.2.2.2.1 c
        refine z_tsCase (2) (off := 66) (tgt := 80) dX8_beside_14 rfl (by decide) (by decide) c ?_
        refine z_iload_n (i := 0) dX8_beside_80 rfl rfl ?_
        refine z_bipush dX8_beside_81 (by decide +kernel) ?_
        refine z_irem dX8_beside_83 ⟨h.1.1, h.1.2, by decide, by decide⟩ ?_
        replace h := h.2
        refine zb_if_le (tgt := 93) dX8_beside_84 (by decide) h.1 ⟨fun c => ?_, fun c => ?_⟩
        · replace h := h.2.1 c
          refine z_iconst dX8_beside_93 ?_
          exact zret_i rfl dX8_beside_94 h
        · replace h := h.2.2 c
          refine z_iload_n (i := 0) dX8_beside_87 rfl rfl ?_
          refine z_iconst dX8_beside_88 ?_
          refine z_isub dX8_beside_89 ?_
          refine z_goto (tgt := 94) dX8_beside_90 (by decide) ?_
          exact zret_i rfl dX8_beside_94 h
      · replace h := h.2.2.2.2.2 c
        refine z_tsCase (3) (off := 81) (tgt := 95) dX8_beside_14 rfl (by decide) (by decide) c ?_
        refine z_iload_n (i := 0) dX8_beside_95 rfl rfl ?_
        refine z_bipush dX8_beside_96 (by decide +kernel) ?_
        refine zb_icmp_lt (tgt := 108) dX8_beside_98 (by decide) ⟨h.1, by decide⟩ ⟨fun c => ?_, fun c => ?_⟩
        · replace h := h.2.1 c
          refine z_iconst dX8_beside_108 ?_
          exact zret_i rfl dX8_beside_109 h
        · replace h := h.2.2 c
          refine z_iload_n (i := 0) dX8_beside_101 rfl rfl ?_
          refine z_bipush dX8_beside_102 (by decide +kernel) ?_
          refine z_isub dX8_beside_104 ?_
          refine z_goto (tgt := 109) dX8_beside_105 (by decide) ?_
          exact zret_i rfl dX8_beside_109 h
    · replace h := h.2.2 c
      refine z_iconst dX8_beside_11 ?_
      exact zret_i rfl dX8_beside_12 h
theorem e_X8_beside {g : zGG} {Q : Int → zMem → Prop} {d : zMem} {x0 : Int} {x1 : Int} (h : ((inR x0) ∧ (x0 < 0 → Q (-1) d) ∧ (0 ≤ x0 → ((inR x0) ∧ (x0 < 240 → ((inR x1) ∧ ((x1 < 0 ∨ 3 < x1) → Q (-1) d) ∧ (x1 = 0 → (0 ≤ x0 ∧ inR x0) ∧ ((inR (x0 % 20)) ∧ (19 ≤ (x0 % 20) → Q (-1) d) ∧ ((x0 % 20) < 19 → Q (x0 + 1) d))) ∧ (x1 = 1 → ((inR (x0 + 20)) ∧ (240 ≤ (x0 + 20) → Q (-1) d) ∧ ((x0 + 20) < 240 → Q (x0 + 20) d))) ∧ (x1 = 2 → (0 ≤ x0 ∧ inR x0) ∧ ((inR (x0 % 20)) ∧ ((x0 % 20) ≤ 0 → Q (-1) d) ∧ (0 < (x0 % 20) → Q (x0 - 1) d))) ∧ (x1 = 3 → ((inR x0) ∧ (x0 < 20 → Q (-1) d) ∧ (20 ≤ x0 → Q (x0 - 20) d))))) ∧ (240 ≤ x0 → Q (-1) d))))) : Ev g M_X8_beside FUL FUL [zI x0, zI x1] d Q :=
  Ev_of (by decide +kernel) (Nat.le_of_ble_eq_true rfl) (v_X8_beside_0  h)
set_option maxRecDepth 20000 in
theorem v_X8_areOpposite_0 {g : zGG} {Q : Int → zMem → Prop} {d : zMem} {x0 : Int} {x1 : Int}  (h : (inR (x0 - x1)) ∧ ((inR (if 0 ≤ (x0 - x1) then (x0 - x1) else -(x0 - x1))) ∧ ((if 0 ≤ (x0 - x1) then (x0 - x1) else -(x0 - x1)) ≠ 2 → Q 0 d) ∧ ((if 0 ≤ (x0 - x1) then (x0 - x1) else -(x0 - x1)) = 2 → Q 1 d))) : Fr g (eM g M_X8_areOpposite FUL FUL Q) M_X8_areOpposite FUL 0 [some (zI x0), some (zI x1)] [] d := by
  refine z_iload_n (i := 0) dX8_areOpposite_0 rfl rfl ?_
  refine z_iload_n (i := 1) dX8_areOpposite_1 rfl rfl ?_
  refine z_isub dX8_areOpposite_2 ?_
  refine z_abs h.1 dX8_areOpposite_3 wm_X8_267 wMs_abs wMi wMc_abs ⟨Nat.le_of_ble_eq_true rfl, Nat.le_of_ble_eq_true rfl, Nat.le_refl _, Nat.le_refl _⟩ ?_
  replace h := h.2
  refine z_iconst dX8_areOpposite_6 ?_
  refine zb_icmp_ne (tgt := 14) dX8_areOpposite_7 (by decide) ⟨h.1, by decide⟩ ⟨fun c => ?_, fun c => ?_⟩
  · replace h := h.2.1 c
    refine z_iconst dX8_areOpposite_14 ?_
    exact zret_z rfl dX8_areOpposite_15 (by decide) h
  · replace h := h.2.2 c
    refine z_iconst dX8_areOpposite_10 ?_
    refine z_goto (tgt := 15) dX8_areOpposite_11 (by decide) ?_
    exact zret_z rfl dX8_areOpposite_15 (by decide) h
theorem e_X8_areOpposite {g : zGG} {Q : Int → zMem → Prop} {d : zMem} {x0 : Int} {x1 : Int} (h : (inR (x0 - x1)) ∧ ((inR (if 0 ≤ (x0 - x1) then (x0 - x1) else -(x0 - x1))) ∧ ((if 0 ≤ (x0 - x1) then (x0 - x1) else -(x0 - x1)) ≠ 2 → Q 0 d) ∧ ((if 0 ≤ (x0 - x1) then (x0 - x1) else -(x0 - x1)) = 2 → Q 1 d))) : Ev g M_X8_areOpposite FUL FUL [zI x0, zI x1] d Q :=
  Ev_of (by decide +kernel) (Nat.le_of_ble_eq_true rfl) (v_X8_areOpposite_0  h)
set_option maxRecDepth 20000 in
theorem v_J7_fill_53178_0 {g : zGG} {φ : zPhi} {Q : Int → zMem → Prop} {d : zMem} {q nn : Nat} {x1 : Int} (hL : LAY q = (1, nn)) (hq : q < φ.1) (hn : nn < 2 ^ 31)  (h : (Fr g (eM g M_J7_fill_53178 φ φ Q) M_J7_fill_53178 φ 5 [some (zR q), some (zI x1), some (zI 0), some (zI (nn : Int))] [] d)) : Fr g (eM g M_J7_fill_53178 φ φ Q) M_J7_fill_53178 φ 0 [some (zR q), some (zI x1), none, none] [] d := by
  refine z_iconst dJ7_fill_53178_0 ?_
  refine z_istore_n (i := 2) (ls2 := [some (zR q), some (zI x1), some (zI 0), none]) dJ7_fill_53178_1 rfl (by decide) rfl ?_
  refine z_aloadR_n (i := 0) dJ7_fill_53178_2 rfl rfl ?_
  refine z_alen' (v := (nn : Int)) hL (by decide) hq rfl dJ7_fill_53178_3 ?_
  refine z_istore_n (i := 3) (ls2 := [some (zR q), some (zI x1), some (zI 0), some (zI (nn : Int))]) dJ7_fill_53178_4 rfl (by decide) rfl ?_
  exact h
theorem e_J7_fill_53178 {g : zGG} {φ : zPhi} {Q : Int → zMem → Prop} {d : zMem} {q nn : Nat} {x1 : Int} (hL : LAY q = (1, nn)) (hq : q < φ.1) (hn : nn < 2 ^ 31) (h : (Fr g (eM g M_J7_fill_53178 φ φ Q) M_J7_fill_53178 φ 5 [some (zR q), some (zI x1), some (zI 0), some (zI (nn : Int))] [] d)) : Ev g M_J7_fill_53178 φ φ [zR q, zI x1] d Q :=
  Ev_of (by decide +kernel) (Nat.le_of_ble_eq_true rfl) (v_J7_fill_53178_0 hL hq hn h)
set_option maxRecDepth 20000 in
theorem v_J7_fill_53178_5 {g : zGG} {φ : zPhi} {Q : Int → zMem → Prop} {d : zMem} {q nn : Nat} {x1 : Int} (hL : LAY q = (1, nn)) (hq : q < φ.1) (hn : nn < 2 ^ 31) {x2 : Int} {x3 : Int} (h : ((inR x2 ∧ inR x3) ∧ (x3 ≤ x2 → Q 0 d) ∧ (x2 < x3 → (0 ≤ x2 ∧ x2 < nn) ∧ ∀ d1, d1 = mu d q x2 x1 → (Fr g (eM g M_J7_fill_53178 φ φ Q) M_J7_fill_53178 φ 5 [some (zR q), some (zI x1), some (zI (x2 + 1)), some (zI x3)] [] d1)))) : Fr g (eM g M_J7_fill_53178 φ φ Q) M_J7_fill_53178 φ 5 [some (zR q), some (zI x1), some (zI x2), some (zI x3)] [] d := by
  refine z_iload_n (i := 2) dJ7_fill_53178_5 rfl rfl ?_
  refine z_iload_n (i := 3) dJ7_fill_53178_6 rfl rfl ?_
  refine zb_icmp_ge (tgt := 20) dJ7_fill_53178_7 (by decide) h.1 ⟨fun c => ?_, fun c => ?_⟩
  · replace h := h.2.1 c
    exact zret_v rfl dJ7_fill_53178_20 h
  · replace h := h.2.2 c
    refine z_aloadR_n (i := 0) dJ7_fill_53178_10 rfl rfl ?_
    refine z_iload_n (i := 2) dJ7_fill_53178_11 rfl rfl ?_
    refine z_iload_n (i := 1) dJ7_fill_53178_12 rfl rfl ?_
    refine z_iastore hL hq hn dJ7_fill_53178_13 h.1 ?_
    replace h := h.2
    generalize hd1 : mu d q x2 x1 = d1
    replace hd1 := hd1.symm
    replace h := h d1 hd1
    refine z_iinc (i := 2) (ls2 := [some (zR q), some (zI x1), some (zI (x2 + 1)), some (zI x3)]) dJ7_fill_53178_14 (by decide) rfl rfl ?_
    refine z_goto (tgt := 5) dJ7_fill_53178_17 (by decide) ?_
    exact h
end
section
set_option maxRecDepth 20000 in
theorem v_X1_clear_0 {g : zGG} {φ : zPhi} {Q : Int → zMem → Prop} {d : zMem} {a : Nat} (ha : isRiv a) (h0 : a + 4 < φ.1) (hw0 : φ.2 (a + 2) 0 = true) (hw1 : φ.2 (a + 2) 1 = true)  (h : ∀ d1, d1 = mu d (a + 2) 2 0 → Ev g M_J7_fill_53178 φ φ [zR (a + 4), zI (-1)] d1 (fun _ d2 => Q 0 d2)) : Fr g (eM g M_X1_clear φ φ Q) M_X1_clear φ 0 [some (zR (a + 2))] [] d := by
  refine z_aloadR_n (i := 0) dX1_clear_0 rfl rfl ?_
  refine z_iconst dX1_clear_1 ?_
  refine z_putI 1 2 (idx := 21) (rl2 ha) (by decide) (by decide) rfl (hlt2 h0) rfl wf_X1_21 dX1_clear_2 (Or.inl rfl) ?_
  generalize hd1 : mu d (a + 2) ((2 : Nat) : Int) 0 = d1
  replace hd1 := hd1.symm
  replace h := h d1 hd1
  refine z_aloadR_n (i := 0) dX1_clear_5 rfl rfl ?_
  refine z_getR 1 1 (idx := 15) (rl2 ha) (by decide) (by decide) rfl (hlt2 h0) hw1 (rt2_1 ha) wf_X1_15 dX1_clear_6 ?_
  refine z_iconst dX1_clear_9 ?_
  refine z_callS (k' := M_J7_fill_53178) (As := [zR (a + 4), zI (-1)]) (st := []) dX1_clear_10 rfl wm_X1_25 ok_J7_fill_53178 okS_J7_fill_53178 rfl (zroom_self (by decide) (by decide)) (Nat.le_of_ble_eq_true rfl) (Nat.le_refl _) (zEnd_v (Nat.le_refl _) rfl (fun _ _ q => q)) (Ev_mono h (fun _ d2 h => ?_))
  exact zret_v rfl dX1_clear_13 h
theorem e_X1_clear {g : zGG} {φ : zPhi} {Q : Int → zMem → Prop} {d : zMem} {a : Nat} (ha : isRiv a) (h0 : a + 4 < φ.1) (hw0 : φ.2 (a + 2) 0 = true) (hw1 : φ.2 (a + 2) 1 = true) (h : ∀ d1, d1 = mu d (a + 2) 2 0 → Ev g M_J7_fill_53178 φ φ [zR (a + 4), zI (-1)] d1 (fun _ d2 => Q 0 d2)) : Ev g M_X1_clear φ φ [zR (a + 2)] d Q :=
  Ev_of (by decide +kernel) (Nat.le_of_ble_eq_true rfl) (v_X1_clear_0 ha h0 hw0 hw1 h)
set_option maxRecDepth 20000 in
theorem v_X1_copyFrom_0 {g : zGG} {Q : Int → zMem → Prop} {d : zMem} {a : Nat} {b : Nat} (ha : isRiv a) (hb : isRiv b)  (h : ∀ d1, d1 = mrow d (a + 3) (zcp (d (b + 3)) (d (a + 3)) 0 0 150) → ∀ d2, d2 = mrow d1 (a + 4) (zcp (d1 (b + 4)) (d1 (a + 4)) 0 0 240) → ∀ d3, d3 = mu d2 (a + 2) 2 (d2 (b + 2) 2) → Q 0 d3) : Fr g (eM g M_X1_copyFrom FUL FUL Q) M_X1_copyFrom FUL 0 [some (zR (a + 2)), some (zR (b + 2))] [] d := by
  refine z_aloadR_n (i := 1) dX1_copyFrom_0 rfl rfl ?_
  refine z_getR 1 0 (idx := 9) (rl2 hb) (by decide) (by decide) rfl (rlt2 hb) rfl (rt2_0 hb) wf_X1_9 dX1_copyFrom_1 ?_
  refine z_iconst dX1_copyFrom_4 ?_
  refine z_aloadR_n (i := 0) dX1_copyFrom_5 rfl rfl ?_
  refine z_getR 1 0 (idx := 9) (rl2 ha) (by decide) (by decide) rfl (rlt2 ha) rfl (rt2_0 ha) wf_X1_9 dX1_copyFrom_6 ?_
  refine z_iconst dX1_copyFrom_9 ?_
  refine z_sipush dX1_copyFrom_10 (by decide +kernel) ?_
  refine z_copy (rl3 hb) (rl3 ha) (rlt3 hb) (rlt3 ha) (by decide) (by decide) dX1_copyFrom_13 wm_X1_31 wSn wSs wSi ⟨Nat.le_of_ble_eq_true rfl, Nat.le_of_ble_eq_true rfl⟩ ?_
  generalize hd1 : mrow d (a + 3) (zcp (d (b + 3)) (d (a + 3)) 0 0 150) = d1
  replace hd1 := hd1.symm
  replace h := h d1 hd1
  refine z_aloadR_n (i := 1) dX1_copyFrom_16 rfl rfl ?_
  refine z_getR 1 1 (idx := 15) (rl2 hb) (by decide) (by decide) rfl (rlt2 hb) rfl (rt2_1 hb) wf_X1_15 dX1_copyFrom_17 ?_
  refine z_iconst dX1_copyFrom_20 ?_
  refine z_aloadR_n (i := 0) dX1_copyFrom_21 rfl rfl ?_
  refine z_getR 1 1 (idx := 15) (rl2 ha) (by decide) (by decide) rfl (rlt2 ha) rfl (rt2_1 ha) wf_X1_15 dX1_copyFrom_22 ?_
  refine z_iconst dX1_copyFrom_25 ?_
  refine z_sipush dX1_copyFrom_26 (by decide +kernel) ?_
  refine z_copy (rl4 hb) (rl4 ha) (rlt4 hb) (rlt4 ha) (by decide) (by decide) dX1_copyFrom_29 wm_X1_31 wSn wSs wSi ⟨Nat.le_of_ble_eq_true rfl, Nat.le_of_ble_eq_true rfl⟩ ?_
  generalize hd2 : mrow d1 (a + 4) (zcp (d1 (b + 4)) (d1 (a + 4)) 0 0 240) = d2
  replace hd2 := hd2.symm
  replace h := h d2 hd2
  refine z_aloadR_n (i := 0) dX1_copyFrom_32 rfl rfl ?_
  refine z_aloadR_n (i := 1) dX1_copyFrom_33 rfl rfl ?_
  refine z_getI' 1 2 (idx := 21) (fv := (d2 (b + 2) 2)) (rl2 hb) (by decide) (by decide) rfl (rlt2 hb) wf_X1_21 dX1_copyFrom_34 rfl ?_
  refine z_putI 1 2 (idx := 21) (rl2 ha) (by decide) (by decide) rfl (rlt2 ha) rfl wf_X1_21 dX1_copyFrom_37 (Or.inl rfl) ?_
  generalize hd3 : mu d2 (a + 2) ((2 : Nat) : Int) (d2 (b + 2) 2) = d3
  replace hd3 := hd3.symm
  replace h := h d3 hd3
  exact zret_v rfl dX1_copyFrom_40 h
theorem e_X1_copyFrom {g : zGG} {Q : Int → zMem → Prop} {d : zMem} {a : Nat} {b : Nat} (ha : isRiv a) (hb : isRiv b) (h : ∀ d1, d1 = mrow d (a + 3) (zcp (d (b + 3)) (d (a + 3)) 0 0 150) → ∀ d2, d2 = mrow d1 (a + 4) (zcp (d1 (b + 4)) (d1 (a + 4)) 0 0 240) → ∀ d3, d3 = mu d2 (a + 2) 2 (d2 (b + 2) 2) → Q 0 d3) : Ev g M_X1_copyFrom FUL FUL [zR (a + 2), zR (b + 2)] d Q :=
  Ev_of (by decide +kernel) (Nat.le_of_ble_eq_true rfl) (v_X1_copyFrom_0 ha hb h)
set_option maxRecDepth 20000 in
theorem v_X1_length_0 {g : zGG} {Q : Int → zMem → Prop} {d : zMem} {a : Nat} (ha : isRiv a)  (h : Q (d (a + 2) 2) d) : Fr g (eM g M_X1_length FUL FUL Q) M_X1_length FUL 0 [some (zR (a + 2))] [] d := by
  refine z_aloadR_n (i := 0) dX1_length_0 rfl rfl ?_
  refine z_getI' 1 2 (idx := 21) (fv := (d (a + 2) 2)) (rl2 ha) (by decide) (by decide) rfl (rlt2 ha) wf_X1_21 dX1_length_1 rfl ?_
  exact zret_i rfl dX1_length_4 h
theorem e_X1_length {g : zGG} {Q : Int → zMem → Prop} {d : zMem} {a : Nat} (ha : isRiv a) (h : Q (d (a + 2) 2) d) : Ev g M_X1_length FUL FUL [zR (a + 2)] d Q :=
  Ev_of (by decide +kernel) (Nat.le_of_ble_eq_true rfl) (v_X1_length_0 ha h)
set_option maxRecDepth 20000 in
theorem v_X1_append_0 {g : zGG} {φ : zPhi} {Q : Int → zMem → Prop} {d : zMem} {a : Nat} {x1 : Int} (ha : isRiv a) (h0 : a + 4 < φ.1) (hw0 : φ.2 (a + 2) 0 = true) (hw1 : φ.2 (a + 2) 1 = true)  (h : Ev g M_X8_isOnLand φ φ [zI x1] d (fun v1 d1 => ((inR v1) ∧ (v1 = 0 → Q 0 d1) ∧ (v1 ≠ 0 → (0 ≤ x1 ∧ x1 < 240) ∧ ((inR (d1 (a + 4) x1)) ∧ ((d1 (a + 4) x1) ≠ (-1) → Q 0 d1) ∧ ((d1 (a + 4) x1) = (-1) → ((inR (d1 (a + 2) 2)) ∧ ((d1 (a + 2) 2) < 0 → Q 0 d1) ∧ (0 ≤ (d1 (a + 2) 2) → ((inR (d1 (a + 2) 2)) ∧ ((d1 (a + 2) 2) < 150 → (0 ≤ (d1 (a + 2) 2) ∧ (d1 (a + 2) 2) < 150) ∧ ∀ d2, d2 = mu d1 (a + 3) (d1 (a + 2) 2) x1 → (0 ≤ x1 ∧ x1 < 240) ∧ ∀ d3, d3 = mu d2 (a + 4) x1 (d1 (a + 2) 2) → ∀ d4, d4 = mu d3 (a + 2) 2 ((d1 (a + 2) 2) + 1) → Q 1 d4) ∧ (150 ≤ (d1 (a + 2) 2) → Q 0 d1)))))))))) : Fr g (eM g M_X1_append φ φ Q) M_X1_append φ 0 [some (zR (a + 2)), some (zI x1)] [] d := by
  refine z_iload_n (i := 1) dX1_append_0 rfl rfl ?_
  refine z_callSN (k' := M_X8_isOnLand) (As := [zI x1]) (st := []) dX1_append_1 rfl wm_X1_37 ok_X8_isOnLand okS_X8_isOnLand rfl (zroom_self (by decide) (by decide)) (Nat.le_of_ble_eq_true rfl) (Nat.le_refl _) (zEnd_i (Nat.le_refl _) rfl (fun _ _ q => q)) (Ev_mono h (fun v1 d1 h => ?_))
  refine zb_if_eq (tgt := 34) dX1_append_4 (by decide) h.1 ⟨fun c => ?_, fun c => ?_⟩
  · replace h := h.2.1 c
    refine z_iconst dX1_append_34 ?_
    exact zret_z rfl dX1_append_35 (by decide) h
  · replace h := h.2.2 c
    refine z_aloadR_n (i := 0) dX1_append_7 rfl rfl ?_
    refine z_getR 1 1 (idx := 15) (rl2 ha) (by decide) (by decide) rfl (hlt2 h0) hw1 (rt2_1 ha) wf_X1_15 dX1_append_8 ?_
    refine z_iload_n (i := 1) dX1_append_11 rfl rfl ?_
    refine z_iaload' (fv := (d1 (a + 4) x1)) (rl4 ha) (hlt4 h0) (by decide) dX1_append_12 h.1 rfl ?_
    replace h := h.2
    refine z_iconst dX1_append_13 ?_
    refine zb_icmp_ne (tgt := 34) dX1_append_14 (by decide) ⟨h.1, by decide⟩ ⟨fun c => ?_, fun c => ?_⟩
    · replace h := h.2.1 c
      refine z_iconst dX1_append_34 ?_
      exact zret_z rfl dX1_append_35 (by decide) h
    · replace h := h.2.2 c
      refine z_aloadR_n (i := 0) dX1_append_17 rfl rfl ?_
      refine z_getI' 1 2 (idx := 21) (fv := (d1 (a + 2) 2)) (rl2 ha) (by decide) (by decide) rfl (hlt2 h0) wf_X1_21 dX1_append_18 rfl ?_
      refine zb_if_lt (tgt := 34) dX1_append_21 (by decide) h.1 ⟨fun c => ?_, fun c => ?_⟩
      · replace h := h.2.1 c
        refine z_iconst dX1_append_34 ?_
        exact zret_z rfl dX1_append_35 (by decide) h
      · replace h := h.2.2 c
        refine z_aloadR_n (i := 0) dX1_append_24 rfl rfl ?_
        refine z_getI' 1 2 (idx := 21) (fv := (d1 (a + 2) 2)) (rl2 ha) (by decide) (by decide) rfl (hlt2 h0) wf_X1_21 dX1_append_25 rfl ?_
        refine z_sipush dX1_append_28 (by decide +kernel) ?_
        refine zb_icmp_lt (tgt := 36) dX1_append_31 (by decide) ⟨h.1, by decide⟩ ⟨fun c => ?_, fun c => ?_⟩
        · replace h := h.2.1 c
          refine z_aloadR_n (i := 0) dX1_append_36 rfl rfl ?_
          refine z_getR 1 0 (idx := 9) (rl2 ha) (by decide) (by decide) rfl (hlt2 h0) hw0 (rt2_0 ha) wf_X1_9 dX1_append_37 ?_
          refine z_aloadR_n (i := 0) dX1_append_40 rfl rfl ?_
          refine z_getI' 1 2 (idx := 21) (fv := (d1 (a + 2) 2)) (rl2 ha) (by decide) (by decide) rfl (hlt2 h0) wf_X1_21 dX1_append_41 rfl ?_
          refine z_iload_n (i := 1) dX1_append_44 rfl rfl ?_
          refine z_iastore (rl3 ha) (hlt3 h0) (by decide) dX1_append_45 h.1 ?_
          replace h := h.2
          generalize hd2 : mu d1 (a + 3) (d1 (a + 2) 2) x1 = d2
          replace hd2 := hd2.symm
          replace h := h d2 hd2
          refine z_aloadR_n (i := 0) dX1_append_46 rfl rfl ?_
          refine z_getR 1 1 (idx := 15) (rl2 ha) (by decide) (by decide) rfl (hlt2 h0) hw1 (rt2_1 ha) wf_X1_15 dX1_append_47 ?_
          refine z_iload_n (i := 1) dX1_append_50 rfl rfl ?_
          refine z_aloadR_n (i := 0) dX1_append_51 rfl rfl ?_
          refine z_getI' 1 2 (idx := 21) (fv := (d1 (a + 2) 2)) (rl2 ha) (by decide) (by decide) rfl (hlt2 h0) wf_X1_21 dX1_append_52 (by show d2 (a + 2) 2 = _; rw [hd2, mu_na (by omega)]) ?_
          refine z_iastore (rl4 ha) (hlt4 h0) (by decide) dX1_append_55 h.1 ?_
          replace h := h.2
          generalize hd3 : mu d2 (a + 4) x1 (d1 (a + 2) 2) = d3
          replace hd3 := hd3.symm
          replace h := h d3 hd3
          refine z_aloadR_n (i := 0) dX1_append_56 rfl rfl ?_
          refine z_dup dX1_append_57 (Nat.le_of_ble_eq_true rfl) ?_
          refine z_getI' 1 2 (idx := 21) (fv := (d1 (a + 2) 2)) (rl2 ha) (by decide) (by decide) rfl (hlt2 h0) wf_X1_21 dX1_append_58 (by show d3 (a + 2) 2 = _; rw [hd3, mu_na (by omega)]; rw [hd2, mu_na (by omega)]) ?_
          refine z_iconst dX1_append_61 ?_
          refine z_iadd dX1_append_62 ?_
          refine z_putI 1 2 (idx := 21) (rl2 ha) (by decide) (by decide) rfl (hlt2 h0) rfl wf_X1_21 dX1_append_63 (Or.inl rfl) ?_
          generalize hd4 : mu d3 (a + 2) ((2 : Nat) : Int) ((d1 (a + 2) 2) + 1) = d4
          replace hd4 := hd4.symm
          replace h := h d4 hd4
          refine z_iconst dX1_append_66 ?_
          exact zret_z rfl dX1_append_67 (by decide) h
        · replace h := h.2.2 c
          refine z_iconst dX1_append_34 ?_
          exact zret_z rfl dX1_append_35 (by decide) h
theorem e_X1_append {g : zGG} {φ : zPhi} {Q : Int → zMem → Prop} {d : zMem} {a : Nat} {x1 : Int} (ha : isRiv a) (h0 : a + 4 < φ.1) (hw0 : φ.2 (a + 2) 0 = true) (hw1 : φ.2 (a + 2) 1 = true) (h : Ev g M_X8_isOnLand φ φ [zI x1] d (fun v1 d1 => ((inR v1) ∧ (v1 = 0 → Q 0 d1) ∧ (v1 ≠ 0 → (0 ≤ x1 ∧ x1 < 240) ∧ ((inR (d1 (a + 4) x1)) ∧ ((d1 (a + 4) x1) ≠ (-1) → Q 0 d1) ∧ ((d1 (a + 4) x1) = (-1) → ((inR (d1 (a + 2) 2)) ∧ ((d1 (a + 2) 2) < 0 → Q 0 d1) ∧ (0 ≤ (d1 (a + 2) 2) → ((inR (d1 (a + 2) 2)) ∧ ((d1 (a + 2) 2) < 150 → (0 ≤ (d1 (a + 2) 2) ∧ (d1 (a + 2) 2) < 150) ∧ ∀ d2, d2 = mu d1 (a + 3) (d1 (a + 2) 2) x1 → (0 ≤ x1 ∧ x1 < 240) ∧ ∀ d3, d3 = mu d2 (a + 4) x1 (d1 (a + 2) 2) → ∀ d4, d4 = mu d3 (a + 2) 2 ((d1 (a + 2) 2) + 1) → Q 1 d4) ∧ (150 ≤ (d1 (a + 2) 2) → Q 0 d1)))))))))) : Ev g M_X1_append φ φ [zR (a + 2), zI x1] d Q :=
  Ev_of (by decide +kernel) (Nat.le_of_ble_eq_true rfl) (v_X1_append_0 ha h0 hw0 hw1 h)
set_option maxRecDepth 20000 in
theorem v_X1_cellOf_0 {g : zGG} {Q : Int → zMem → Prop} {d : zMem} {a : Nat} {x1 : Int} (ha : isRiv a)  (h : ((inR x1) ∧ (x1 < 0 → Q (-1) d) ∧ (0 ≤ x1 → ((inR x1 ∧ inR (d (a + 2) 2)) ∧ ((d (a + 2) 2) ≤ x1 → Q (-1) d) ∧ (x1 < (d (a + 2) 2) → ((inR x1) ∧ (150 ≤ x1 → Q (-1) d) ∧ (x1 < 150 → (0 ≤ x1 ∧ x1 < 150) ∧ Q (d (a + 3) x1) d))))))) : Fr g (eM g M_X1_cellOf FUL FUL Q) M_X1_cellOf FUL 0 [some (zR (a + 2)), some (zI x1)] [] d := by
  refine z_iload_n (i := 1) dX1_cellOf_0 rfl rfl ?_
  refine zb_if_lt (tgt := 28) dX1_cellOf_1 (by decide) h.1 ⟨fun c => ?_, fun c => ?_⟩
  · replace h := h.2.1 c
    refine z_iconst dX1_cellOf_28 ?_
    exact zret_i rfl dX1_cellOf_29 h
  · replace h := h.2.2 c
    refine z_iload_n (i := 1) dX1_cellOf_4 rfl rfl ?_
    refine z_aloadR_n (i := 0) dX1_cellOf_5 rfl rfl ?_
    refine z_getI' 1 2 (idx := 21) (fv := (d (a + 2) 2)) (rl2 ha) (by decide) (by decide) rfl (rlt2 ha) wf_X1_21 dX1_cellOf_6 rfl ?_
    refine zb_icmp_ge (tgt := 28) dX1_cellOf_9 (by decide) h.1 ⟨fun c => ?_, fun c => ?_⟩
    · replace h := h.2.1 c
      refine z_iconst dX1_cellOf_28 ?_
      exact zret_i rfl dX1_cellOf_29 h
    · replace h := h.2.2 c
      refine z_iload_n (i := 1) dX1_cellOf_12 rfl rfl ?_
      refine z_sipush dX1_cellOf_13 (by decide +kernel) ?_
      refine zb_icmp_ge (tgt := 28) dX1_cellOf_16 (by decide) ⟨h.1, by decide⟩ ⟨fun c => ?_, fun c => ?_⟩
      · replace h := h.2.1 c
        refine z_iconst dX1_cellOf_28 ?_
        exact zret_i rfl dX1_cellOf_29 h
      · replace h := h.2.2 c
        refine z_aloadR_n (i := 0) dX1_cellOf_19 rfl rfl ?_
        refine z_getR 1 0 (idx := 9) (rl2 ha) (by decide) (by decide) rfl (rlt2 ha) rfl (rt2_0 ha) wf_X1_9 dX1_cellOf_20 ?_
        refine z_iload_n (i := 1) dX1_cellOf_23 rfl rfl ?_
        refine z_iaload' (fv := (d (a + 3) x1)) (rl3 ha) (rlt3 ha) (by decide) dX1_cellOf_24 h.1 rfl ?_
        replace h := h.2
        refine z_goto (tgt := 29) dX1_cellOf_25 (by decide) ?_
        exact zret_i rfl dX1_cellOf_29 h
theorem e_X1_cellOf {g : zGG} {Q : Int → zMem → Prop} {d : zMem} {a : Nat} {x1 : Int} (ha : isRiv a) (h : ((inR x1) ∧ (x1 < 0 → Q (-1) d) ∧ (0 ≤ x1 → ((inR x1 ∧ inR (d (a + 2) 2)) ∧ ((d (a + 2) 2) ≤ x1 → Q (-1) d) ∧ (x1 < (d (a + 2) 2) → ((inR x1) ∧ (150 ≤ x1 → Q (-1) d) ∧ (x1 < 150 → (0 ≤ x1 ∧ x1 < 150) ∧ Q (d (a + 3) x1) d))))))) : Ev g M_X1_cellOf FUL FUL [zR (a + 2), zI x1] d Q :=
  Ev_of (by decide +kernel) (Nat.le_of_ble_eq_true rfl) (v_X1_cellOf_0 ha h)
set_option maxRecDepth 20000 in
theorem v_X1_numberOf_0 {g : zGG} {Q : Int → zMem → Prop} {d : zMem} {a : Nat} {x1 : Int} (ha : isRiv a)  (h : Ev g M_X8_isOnLand FUL FUL [zI x1] d (fun v1 d1 => ((inR v1) ∧ (v1 = 0 → Q (-1) d1) ∧ (v1 ≠ 0 → (0 ≤ x1 ∧ x1 < 240) ∧ Q (d1 (a + 4) x1) d1)))) : Fr g (eM g M_X1_numberOf FUL FUL Q) M_X1_numberOf FUL 0 [some (zR (a + 2)), some (zI x1)] [] d := by
  refine z_iload_n (i := 1) dX1_numberOf_0 rfl rfl ?_
  refine z_callSN (k' := M_X8_isOnLand) (As := [zI x1]) (st := []) dX1_numberOf_1 rfl wm_X1_37 ok_X8_isOnLand okS_X8_isOnLand rfl (zroom_self (by decide) (by decide)) (Nat.le_of_ble_eq_true rfl) (Nat.le_refl _) (zEnd_i (Nat.le_refl _) rfl (fun _ _ q => q)) (Ev_mono h (fun v1 d1 h => ?_))
  refine zb_if_eq (tgt := 16) dX1_numberOf_4 (by decide) h.1 ⟨fun c => ?_, fun c => ?_⟩
  · replace h := h.2.1 c
    refine z_iconst dX1_numberOf_16 ?_
    exact zret_i rfl dX1_numberOf_17 h
  · replace h := h.2.2 c
    refine z_aloadR_n (i := 0) dX1_numberOf_7 rfl rfl ?_
    refine z_getR 1 1 (idx := 15) (rl2 ha) (by decide) (by decide) rfl (rlt2 ha) rfl (rt2_1 ha) wf_X1_15 dX1_numberOf_8 ?_
    refine z_iload_n (i := 1) dX1_numberOf_11 rfl rfl ?_
    refine z_iaload' (fv := (d1 (a + 4) x1)) (rl4 ha) (rlt4 ha) (by decide) dX1_numberOf_12 h.1 rfl ?_
    replace h := h.2
    refine z_goto (tgt := 17) dX1_numberOf_13 (by decide) ?_
    exact zret_i rfl dX1_numberOf_17 h
theorem e_X1_numberOf {g : zGG} {Q : Int → zMem → Prop} {d : zMem} {a : Nat} {x1 : Int} (ha : isRiv a) (h : Ev g M_X8_isOnLand FUL FUL [zI x1] d (fun v1 d1 => ((inR v1) ∧ (v1 = 0 → Q (-1) d1) ∧ (v1 ≠ 0 → (0 ≤ x1 ∧ x1 < 240) ∧ Q (d1 (a + 4) x1) d1)))) : Ev g M_X1_numberOf FUL FUL [zR (a + 2), zI x1] d Q :=
  Ev_of (by decide +kernel) (Nat.le_of_ble_eq_true rfl) (v_X1_numberOf_0 ha h)
set_option maxRecDepth 20000 in
theorem v_X1_numberBeside_0 {g : zGG} {Q : Int → zMem → Prop} {d : zMem} {a : Nat} {x1 : Int} {x2 : Int} (ha : isRiv a)  (h : Ev g M_X1_cellOf FUL FUL [zR (a + 2), zI x1] d (fun v1 d1 => Ev g M_X8_beside FUL FUL [zI v1, zI x2] d1 (fun v2 d2 => Ev g M_X1_numberOf FUL FUL [zR (a + 2), zI v2] d2 (fun v3 d3 => Q v3 d3)))) : Fr g (eM g M_X1_numberBeside FUL FUL Q) M_X1_numberBeside FUL 0 [some (zR (a + 2)), some (zI x1), some (zI x2)] [] d := by
  refine z_aloadR_n (i := 0) dX1_numberBeside_0 rfl rfl ?_
  refine z_aloadR_n (i := 0) dX1_numberBeside_1 rfl rfl ?_
  refine z_iload_n (i := 1) dX1_numberBeside_2 rfl rfl ?_
  refine z_callVi (k' := M_X1_cellOf) (As := [zI x1]) (st := [zR (a + 2)]) dX1_numberBeside_3 rfl (rl2 ha) (by decide) rfl (rlt2 ha) wm_X1_41 ok_X1_cellOf okV_X1_cellOf rfl (zroom_self (by decide) (by decide)) (Nat.le_of_ble_eq_true rfl) (Nat.le_refl _) rfl (Ev_mono h (fun v1 d1 h => ?_))
  refine z_iload_n (i := 2) dX1_numberBeside_6 rfl rfl ?_
  refine z_callSN (k' := M_X8_beside) (As := [zI v1, zI x2]) (st := [zR (a + 2)]) dX1_numberBeside_7 rfl wm_X1_45 ok_X8_beside okS_X8_beside rfl (zroom_self (by decide) (by decide)) (Nat.le_of_ble_eq_true rfl) (Nat.le_refl _) (zEnd_i (Nat.le_refl _) rfl (fun _ _ q => q)) (Ev_mono h (fun v2 d2 h => ?_))
  refine z_callVi (k' := M_X1_numberOf) (As := [zI v2]) (st := []) dX1_numberBeside_10 rfl (rl2 ha) (by decide) rfl (rlt2 ha) wm_X1_49 ok_X1_numberOf okV_X1_numberOf rfl (zroom_self (by decide) (by decide)) (Nat.le_of_ble_eq_true rfl) (Nat.le_refl _) rfl (Ev_mono h (fun v3 d3 h => ?_))
  exact zret_i rfl dX1_numberBeside_13 h
theorem e_X1_numberBeside {g : zGG} {Q : Int → zMem → Prop} {d : zMem} {a : Nat} {x1 : Int} {x2 : Int} (ha : isRiv a) (h : Ev g M_X1_cellOf FUL FUL [zR (a + 2), zI x1] d (fun v1 d1 => Ev g M_X8_beside FUL FUL [zI v1, zI x2] d1 (fun v2 d2 => Ev g M_X1_numberOf FUL FUL [zR (a + 2), zI v2] d2 (fun v3 d3 => Q v3 d3)))) : Ev g M_X1_numberBeside FUL FUL [zR (a + 2), zI x1, zI x2] d Q :=
  Ev_of (by decide +kernel) (Nat.le_of_ble_eq_true rfl) (v_X1_numberBeside_0 ha h)
set_option maxRecDepth 20000 in
theorem v_X1_nextBeside_0 {g : zGG} {Q : Int → zMem → Prop} {d : zMem} {a : Nat} {x1 : Int} {x2 : Int} (ha : isRiv a)  (h : (Fr g (eM g M_X1_nextBeside FUL FUL Q) M_X1_nextBeside FUL 5 [some (zR (a + 2)), some (zI x1), some (zI x2), some (zI (-1)), some (zI 0), none] [] d)) : Fr g (eM g M_X1_nextBeside FUL FUL Q) M_X1_nextBeside FUL 0 [some (zR (a + 2)), some (zI x1), some (zI x2), none, none, none] [] d := by
  refine z_iconst dX1_nextBeside_0 ?_
  refine z_istore_n (i := 3) (ls2 := [some (zR (a + 2)), some (zI x1), some (zI x2), some (zI (-1)), none, none]) dX1_nextBeside_1 rfl (by decide) rfl ?_
  refine z_iconst dX1_nextBeside_2 ?_
  refine z_istore (i := 4) (ls2 := [some (zR (a + 2)), some (zI x1), some (zI x2), some (zI (-1)), some (zI 0), none]) dX1_nextBeside_3 (by decide) rfl ?_
  exact h
theorem e_X1_nextBeside {g : zGG} {Q : Int → zMem → Prop} {d : zMem} {a : Nat} {x1 : Int} {x2 : Int} (ha : isRiv a) (h : (Fr g (eM g M_X1_nextBeside FUL FUL Q) M_X1_nextBeside FUL 5 [some (zR (a + 2)), some (zI x1), some (zI x2), some (zI (-1)), some (zI 0), none] [] d)) : Ev g M_X1_nextBeside FUL FUL [zR (a + 2), zI x1, zI x2] d Q :=
  Ev_of (by decide +kernel) (Nat.le_of_ble_eq_true rfl) (v_X1_nextBeside_0 ha h)
set_option maxRecDepth 20000 in
theorem v_X1_nextBeside_5 {g : zGG} {Q : Int → zMem → Prop} {d : zMem} {a : Nat} {x1 : Int} {x2 : Int} (ha : isRiv a) {x3 : Int} {x4 : Int} (h : ((inR x4) ∧ (4 ≤ x4 → Q x3 d) ∧ (x4 < 4 → Ev g M_X1_numberBeside FUL FUL [zR (a + 2), zI x1, zI x4] d (fun v1 d1 => ((inR v1 ∧ inR x2) ∧ (v1 ≤ x2 → (Fr g (eM g M_X1_nextBeside FUL FUL Q) M_X1_nextBeside FUL 5 [some (zR (a + 2)), some (zI x1), some (zI x2), some (zI x3), some (zI (x4 + 1)), none] [] d1)) ∧ (x2 < v1 → ((inR x3) ∧ (x3 = (-1) → (Fr g (eM g M_X1_nextBeside FUL FUL Q) M_X1_nextBeside FUL 5 [some (zR (a + 2)), some (zI x1), some (zI x2), some (zI v1), some (zI (x4 + 1)), none] [] d1)) ∧ (x3 ≠ (-1) → ((inR v1 ∧ inR x3) ∧ (x3 ≤ v1 → (Fr g (eM g M_X1_nextBeside FUL FUL Q) M_X1_nextBeside FUL 5 [some (zR (a + 2)), some (zI x1), some (zI x2), some (zI x3), some (zI (x4 + 1)), none] [] d1)) ∧ (v1 < x3 → (Fr g (eM g M_X1_nextBeside FUL FUL Q) M_X1_nextBeside FUL 5 [some (zR (a + 2)), some (zI x1), some (zI x2), some (zI v1), some (zI (x4 + 1)), none] [] d1))))))))))) : Fr g (eM g M_X1_nextBeside FUL FUL Q) M_X1_nextBeside FUL 5 [some (zR (a + 2)), some (zI x1), some (zI x2), some (zI x3), some (zI x4), none] [] d := by
  refine z_iload (i := 4) dX1_nextBeside_5 rfl ?_
  refine z_iconst dX1_nextBeside_7 ?_
  refine zb_icmp_ge (tgt := 46) dX1_nextBeside_8 (by decide) ⟨h.1, by decide⟩ ⟨fun c => ?_, fun c => ?_⟩
  · replace h := h.2.1 c
    refine z_iload_n (i := 3) dX1_nextBeside_46 rfl rfl ?_
    exact zret_i rfl dX1_nextBeside_47 h
  · replace h := h.2.2 c
    refine z_aloadR_n (i := 0) dX1_nextBeside_11 rfl rfl ?_
    refine z_iload_n (i := 1) dX1_nextBeside_12 rfl rfl ?_
    refine z_iload (i := 4) dX1_nextBeside_13 rfl ?_
    refine z_callVi (k' := M_X1_numberBeside) (As := [zI x1, zI x4]) (st := []) dX1_nextBeside_15 rfl (rl2 ha) (by decide) rfl (rlt2 ha) wm_X1_52 ok_X1_numberBeside okV_X1_numberBeside rfl (zroom_self (by decide) (by decide)) (Nat.le_of_ble_eq_true rfl) (Nat.le_refl _) rfl (Ev_mono h (fun v1 d1 h => ?_))
    refine z_istore (i := 5) (ls2 := [some (zR (a + 2)), some (zI x1), some (zI x2), some (zI x3), some (zI x4), some (zI v1)]) dX1_nextBeside_18 (by decide) rfl ?_
    refine z_iload (i := 5) dX1_nextBeside_20 rfl ?_
    refine z_iload_n (i := 2) dX1_nextBeside_22 rfl rfl ?_
    refine zb_icmp_le (tgt := 40) dX1_nextBeside_23 (by decide) h.1 ⟨fun c => ?_, fun c => ?_⟩
    · replace h := h.2.1 c
      refine z_iinc (i := 4) (ls2 := [some (zR (a + 2)), some (zI x1), some (zI x2), some (zI x3), some (zI (x4 + 1)), some (zI v1)]) dX1_nextBeside_40 (by decide) rfl rfl ?_
      refine z_goto (tgt := 5) dX1_nextBeside_43 (by decide) ?_
      exact Fr_weak (ls2 := [some (zR (a + 2)), some (zI x1), some (zI x2), some (zI x3), some (zI (x4 + 1)), none]) (by exact ⟨Or.inr rfl, Or.inr rfl, Or.inr rfl, Or.inr rfl, Or.inr rfl, Or.inl rfl, trivial⟩) h
    · replace h := h.2.2 c
      refine z_iload_n (i := 3) dX1_nextBeside_26 rfl rfl ?_
      refine z_iconst dX1_nextBeside_27 ?_
      refine zb_icmp_eq (tgt := 37) dX1_nextBeside_28 (by decide) ⟨h.1, by decide⟩ ⟨fun c => ?_, fun c => ?_⟩
      · replace h := h.2.1 c
        refine z_iload (i := 5) dX1_nextBeside_37 rfl ?_
        refine z_istore_n (i := 3) (ls2 := [some (zR (a + 2)), some (zI x1), some (zI x2), some (zI v1), some (zI x4), some (zI v1)]) dX1_nextBeside_39 rfl (by decide) rfl ?_
        refine z_iinc (i := 4) (ls2 := [some (zR (a + 2)), some (zI x1), some (zI x2), some (zI v1), some (zI (x4 + 1)), some (zI v1)]) dX1_nextBeside_40 (by decide) rfl rfl ?_
        refine z_goto (tgt := 5) dX1_nextBeside_43 (by decide) ?_
        exact Fr_weak (ls2 := [some (zR (a + 2)), some (zI x1), some (zI x2), some (zI v1), some (zI (x4 + 1)), none]) (by exact ⟨Or.inr rfl, Or.inr rfl, Or.inr rfl, Or.inr rfl, Or.inr rfl, Or.inl rfl, trivial⟩) h
      · replace h := h.2.2 c
        refine z_iload (i := 5) dX1_nextBeside_31 rfl ?_
        refine z_iload_n (i := 3) dX1_nextBeside_33 rfl rfl ?_
        refine zb_icmp_ge (tgt := 40) dX1_nextBeside_34 (by decide) h.1 ⟨fun c => ?_, fun c => ?_⟩
        · replace h := h.2.1 c
          refine z_iinc (i := 4) (ls2 := [some (zR (a + 2)), some (zI x1), some (zI x2), some (zI x3), some (zI (x4 + 1)), some (zI v1)]) dX1_nextBeside_40 (by decide) rfl rfl ?_
          refine z_goto (tgt := 5) dX1_nextBeside_43 (by decide) ?_
          exact Fr_weak (ls2 := [some (zR (a + 2)), some (zI x1), some (zI x2), some (zI x3), some (zI (x4 + 1)), none]) (by exact ⟨Or.inr rfl, Or.inr rfl, Or.inr rfl, Or.inr rfl, Or.inr rfl, Or.inl rfl, trivial⟩) h
        · replace h := h.2.2 c
          refine z_iload (i := 5) dX1_nextBeside_37 rfl ?_
          refine z_istore_n (i := 3) (ls2 := [some (zR (a + 2)), some (zI x1), some (zI x2), some (zI v1), some (zI x4), some (zI v1)]) dX1_nextBeside_39 rfl (by decide) rfl ?_
          refine z_iinc (i := 4) (ls2 := [some (zR (a + 2)), some (zI x1), some (zI x2), some (zI v1), some (zI (x4 + 1)), some (zI v1)]) dX1_nextBeside_40 (by decide) rfl rfl ?_
          refine z_goto (tgt := 5) dX1_nextBeside_43 (by decide) ?_
          exact Fr_weak (ls2 := [some (zR (a + 2)), some (zI x1), some (zI x2), some (zI v1), some (zI (x4 + 1)), none]) (by exact ⟨Or.inr rfl, Or.inr rfl, Or.inr rfl, Or.inr rfl, Or.inr rfl, Or.inl rfl, trivial⟩) h
set_option maxRecDepth 20000 in
theorem v_X1_wayFrom_0 {g : zGG} {Q : Int → zMem → Prop} {d : zMem} {a : Nat} {x1 : Int} (ha : isRiv a)  (h : Ev g M_X1_cellOf FUL FUL [zR (a + 2), zI x1] d (fun v1 d1 => Ev g M_X1_cellOf FUL FUL [zR (a + 2), zI (x1 + 1)] d1 (fun v2 d2 => ((inR v1) ∧ (v1 = (-1) → Q (-1) d2) ∧ (v1 ≠ (-1) → ((inR v2) ∧ (v2 ≠ (-1) → ((inR (v2 - v1)) ∧ (((v2 - v1) ≠ -1 ∧ (v2 - v1) ≠ 1 ∧ (v2 - v1) ≠ 20) → Q 3 d2) ∧ ((v2 - v1) = -1 → Q 2 d2) ∧ ((v2 - v1) = 1 → Q 0 d2) ∧ ((v2 - v1) = 20 → Q 1 d2))) ∧ (v2 = (-1) → Q (-1) d2))))))) : Fr g (eM g M_X1_wayFrom FUL FUL Q) M_X1_wayFrom FUL 0 [some (zR (a + 2)), some (zI x1), none, none] [] d := by
  refine z_aloadR_n (i := 0) dX1_wayFrom_0 rfl rfl ?_
  refine z_iload_n (i := 1) dX1_wayFrom_1 rfl rfl ?_
  refine z_callVi (k' := M_X1_cellOf) (As := [zI x1]) (st := []) dX1_wayFrom_2 rfl (rl2 ha) (by decide) rfl (rlt2 ha) wm_X1_41 ok_X1_cellOf okV_X1_cellOf rfl (zroom_self (by decide) (by decide)) (Nat.le_of_ble_eq_true rfl) (Nat.le_refl _) rfl (Ev_mono h (fun v1 d1 h => ?_))
  refine z_istore_n (i := 2) (ls2 := [some (zR (a + 2)), some (zI x1), some (zI v1), none]) dX1_wayFrom_5 rfl (by decide) rfl ?_
  refine z_aloadR_n (i := 0) dX1_wayFrom_6 rfl rfl ?_
  refine z_iload_n (i := 1) dX1_wayFrom_7 rfl rfl ?_
  refine z_iconst dX1_wayFrom_8 ?_
  refine z_iadd dX1_wayFrom_9 ?_
  refine z_callVi (k' := M_X1_cellOf) (As := [zI (x1 + 1)]) (st := []) dX1_wayFrom_10 rfl (rl2 ha) (by decide) rfl (rlt2 ha) wm_X1_41 ok_X1_cellOf okV_X1_cellOf rfl (zroom_self (by decide) (by decide)) (Nat.le_of_ble_eq_true rfl) (Nat.le_refl _) rfl (Ev_mono h (fun v2 d2 h => ?_))
  refine z_istore_n (i := 3) (ls2 := [some (zR (a + 2)), some (zI x1), some (zI v1), some (zI v2)]) dX1_wayFrom_13 rfl (by decide) rfl ?_
  refine z_iload_n (i := 2) dX1_wayFrom_14 rfl rfl ?_
  refine z_iconst dX1_wayFrom_15 ?_
  refine zb_icmp_eq (tgt := 24) dX1_wayFrom_16 (by decide) ⟨h.1, by decide⟩ ⟨fun c => ?_, fun c => ?_⟩
  · replace h := h.2.1 c
    refine z_iconst dX1_wayFrom_24 ?_
    exact zret_i rfl dX1_wayFrom_25 h
  · replace h := h.2.2 c
    refine z_iload_n (i := 3) dX1_wayFrom_19 rfl rfl ?_
    refine z_iconst dX1_wayFrom_20 ?_
    refine zb_icmp_ne (tgt := 26) dX1_wayFrom_21 (by decide) ⟨h.1, by decide⟩ ⟨fun c => ?_, fun c => ?_⟩
    · replace h := h.2.1 c
      refine z_iload_n (i := 3) dX1_wayFrom_26 rfl rfl ?_
      refine z_iload_n (i := 2) dX1_wayFrom_27 rfl rfl ?_
      refine z_isub dX1_wayFrom_28 ?_
      have hr := h.1
      rcases (show ((v2 - v1) ≠ -1 ∧ (v2 - v1) ≠ 1 ∧ (v2 - v1) ≠ 20) ∨ (v2 - v1) = -1 ∨ (v2 - v1) = 1 ∨ (v2 - v1) = 20 by omega) with c | c | c | c
      · replace h := h.2.1 c
        refine z_lk (off := 41) (tgt := 70) dX1_wayFrom_29 (by decide +kernel) hr (by rw [Op.lookupswitch.offset_cons, if_neg (by omega), Op.lookupswitch.offset_cons, if_neg (by omega), Op.lookupswitch.offset_cons, if_neg (by omega)] <;> rfl) (by decide) ?_
        refine z_iconst dX1_wayFrom_70 ?_
        exact zret_i rfl dX1_wayFrom_71 h
      · replace h := h.2.2.1 c
        refine z_lk (off := 39) (tgt := 68) dX1_wayFrom_29 (by decide +kernel) hr (by rw [c]; decide +kernel) (by decide) ?_
        refine z_iconst dX1_wayFrom_68 ?_
        exact zret_i rfl dX1_wayFrom_69 h
      · replace h := h.2.2.2.1 c
        refine z_lk (off := 35) (tgt := 64) dX1_wayFrom_29 (by decide +kernel) hr (by rw [c]; decide +kernel) (by decide) ?_
        refine z_iconst dX1_wayFrom_64 ?_
        exact zret_i rfl dX1_wayFrom_65 h
      · replace h := h.2.2.2.2 c
        refine z_lk (off := 37) (tgt := 66) dX1_wayFrom_29 (by decide +kernel) hr (by rw [c]; decide +kernel) (by decide) ?_
        refine z_iconst dX1_wayFrom_66 ?_
        exact zret_i rfl dX1_wayFrom_67 h
    · replace h := h.2.2 c
      refine z_iconst dX1_wayFrom_24 ?_
      exact zret_i rfl dX1_wayFrom_25 h
theorem e_X1_wayFrom {g : zGG} {Q : Int → zMem → Prop} {d : zMem} {a : Nat} {x1 : Int} (ha : isRiv a) (h : Ev g M_X1_cellOf FUL FUL [zR (a + 2), zI x1] d (fun v1 d1 => Ev g M_X1_cellOf FUL FUL [zR (a + 2), zI (x1 + 1)] d1 (fun v2 d2 => ((inR v1) ∧ (v1 = (-1) → Q (-1) d2) ∧ (v1 ≠ (-1) → ((inR v2) ∧ (v2 ≠ (-1) → ((inR (v2 - v1)) ∧ (((v2 - v1) ≠ -1 ∧ (v2 - v1) ≠ 1 ∧ (v2 - v1) ≠ 20) → Q 3 d2) ∧ ((v2 - v1) = -1 → Q 2 d2) ∧ ((v2 - v1) = 1 → Q 0 d2) ∧ ((v2 - v1) = 20 → Q 1 d2))) ∧ (v2 = (-1) → Q (-1) d2))))))) : Ev g M_X1_wayFrom FUL FUL [zR (a + 2), zI x1] d Q :=
  Ev_of (by decide +kernel) (Nat.le_of_ble_eq_true rfl) (v_X1_wayFrom_0 ha h)
set_option maxRecDepth 20000 in
theorem v_X1_winding_0 {g : zGG} {Q : Int → zMem → Prop} {d : zMem} {a : Nat} (ha : isRiv a)  (h : Ev g M_X1_cellOf FUL FUL [zR (a + 2), zI 0] d (fun v1 d1 => Ev g M_X1_cellOf FUL FUL [zR (a + 2), zI ((d1 (a + 2) 2) - 1)] d1 (fun v2 d2 => (0 ≤ v2 ∧ inR v2) ∧ (0 ≤ v1 ∧ inR v1) ∧ (inR ((v2 % 20) - (v1 % 20))) ∧ (0 ≤ v2 ∧ inR v2) ∧ (0 ≤ v1 ∧ inR v1) ∧ (inR ((v2 / 20) - (v1 / 20))) ∧ ((inR ((if 0 ≤ ((v2 % 20) - (v1 % 20)) then ((v2 % 20) - (v1 % 20)) else -((v2 % 20) - (v1 % 20))) + (if 0 ≤ ((v2 / 20) - (v1 / 20)) then ((v2 / 20) - (v1 / 20)) else -((v2 / 20) - (v1 / 20))))) ∧ (((if 0 ≤ ((v2 % 20) - (v1 % 20)) then ((v2 % 20) - (v1 % 20)) else -((v2 % 20) - (v1 % 20))) + (if 0 ≤ ((v2 / 20) - (v1 / 20)) then ((v2 / 20) - (v1 / 20)) else -((v2 / 20) - (v1 / 20)))) ≠ 0 → (0 ≤ (1000 * ((d2 (a + 2) 2) - 1)) ∧ inR (1000 * ((d2 (a + 2) 2) - 1)) ∧ 0 < ((if 0 ≤ ((v2 % 20) - (v1 % 20)) then ((v2 % 20) - (v1 % 20)) else -((v2 % 20) - (v1 % 20))) + (if 0 ≤ ((v2 / 20) - (v1 / 20)) then ((v2 / 20) - (v1 / 20)) else -((v2 / 20) - (v1 / 20)))) ∧ inR ((if 0 ≤ ((v2 % 20) - (v1 % 20)) then ((v2 % 20) - (v1 % 20)) else -((v2 % 20) - (v1 % 20))) + (if 0 ≤ ((v2 / 20) - (v1 / 20)) then ((v2 / 20) - (v1 / 20)) else -((v2 / 20) - (v1 / 20))))) ∧ Q ((1000 * ((d2 (a + 2) 2) - 1)) / ((if 0 ≤ ((v2 % 20) - (v1 % 20)) then ((v2 % 20) - (v1 % 20)) else -((v2 % 20) - (v1 % 20))) + (if 0 ≤ ((v2 / 20) - (v1 / 20)) then ((v2 / 20) - (v1 / 20)) else -((v2 / 20) - (v1 / 20))))) d2) ∧ (((if 0 ≤ ((v2 % 20) - (v1 % 20)) then ((v2 % 20) - (v1 % 20)) else -((v2 % 20) - (v1 % 20))) + (if 0 ≤ ((v2 / 20) - (v1 / 20)) then ((v2 / 20) - (v1 / 20)) else -((v2 / 20) - (v1 / 20)))) = 0 → Q (-6) d2))))) : Fr g (eM g M_X1_winding FUL FUL Q) M_X1_winding FUL 0 [some (zR (a + 2)), none, none, none] [] d := by
  refine z_aloadR_n (i := 0) dX1_winding_0 rfl rfl ?_
  refine z_iconst dX1_winding_1 ?_
  refine z_callVi (k' := M_X1_cellOf) (As := [zI 0]) (st := []) dX1_winding_2 rfl (rl2 ha) (by decide) rfl (rlt2 ha) wm_X1_41 ok_X1_cellOf okV_X1_cellOf rfl (zroom_self (by decide) (by decide)) (Nat.le_of_ble_eq_true rfl) (Nat.le_refl _) rfl (Ev_mono h (fun v1 d1 h => ?_))
  refine z_istore_n (i := 1) (ls2 := [some (zR (a + 2)), some (zI v1), none, none]) dX1_winding_5 rfl (by decide) rfl ?_
  refine z_aloadR_n (i := 0) dX1_winding_6 rfl rfl ?_
  refine z_aloadR_n (i := 0) dX1_winding_7 rfl rfl ?_
  refine z_getI' 1 2 (idx := 21) (fv := (d1 (a + 2) 2)) (rl2 ha) (by decide) (by decide) rfl (rlt2 ha) wf_X1_21 dX1_winding_8 rfl ?_
  refine z_iconst dX1_winding_11 ?_
  refine z_isub dX1_winding_12 ?_
  refine z_callVi (k' := M_X1_cellOf) (As := [zI ((d1 (a + 2) 2) - 1)]) (st := []) dX1_winding_13 rfl (rl2 ha) (by decide) rfl (rlt2 ha) wm_X1_41 ok_X1_cellOf okV_X1_cellOf rfl (zroom_self (by decide) (by decide)) (Nat.le_of_ble_eq_true rfl) (Nat.le_refl _) rfl (Ev_mono h (fun v2 d2 h => ?_))
  refine z_istore_n (i := 2) (ls2 := [some (zR (a + 2)), some (zI v1), some (zI v2), none]) dX1_winding_16 rfl (by decide) rfl ?_
  refine z_iload_n (i := 2) dX1_winding_17 rfl rfl ?_
  refine z_bipush dX1_winding_18 (by decide +kernel) ?_
  refine z_irem dX1_winding_20 ⟨h.1.1, h.1.2, by decide, by decide⟩ ?_
  replace h := h.2
  refine z_iload_n (i := 1) dX1_winding_21 rfl rfl ?_
  refine z_bipush dX1_winding_22 (by decide +kernel) ?_
  refine z_irem dX1_winding_24 ⟨h.1.1, h.1.2, by decide, by decide⟩ ?_
  replace h := h.2
  refine z_isub dX1_winding_25 ?_
  refine z_abs h.1 dX1_winding_26 wm_X1_55 wMs_abs wMi wMc_abs ⟨Nat.le_of_ble_eq_true rfl, Nat.le_of_ble_eq_true rfl, Nat.le_refl _, Nat.le_refl _⟩ ?_
  replace h := h.2
  refine z_iload_n (i := 2) dX1_winding_29 rfl rfl ?_
  refine z_bipush dX1_winding_30 (by decide +kernel) ?_
  refine z_idiv dX1_winding_32 ⟨h.1.1, h.1.2, by decide, by decide⟩ ?_
  replace h := h.2
  refine z_iload_n (i := 1) dX1_winding_33 rfl rfl ?_
  refine z_bipush dX1_winding_34 (by decide +kernel) ?_
  refine z_idiv dX1_winding_36 ⟨h.1.1, h.1.2, by decide, by decide⟩ ?_
  replace h := h.2
  refine z_isub dX1_winding_37 ?_
  refine z_abs h.1 dX1_winding_38 wm_X1_55 wMs_abs wMi wMc_abs ⟨Nat.le_of_ble_eq_true rfl, Nat.le_of_ble_eq_true rfl, Nat.le_refl _, Nat.le_refl _⟩ ?_
  replace h := h.2
  refine z_iadd dX1_winding_41 ?_
  refine z_istore_n (i := 3) (ls2 := [some (zR (a + 2)), some (zI v1), some (zI v2), some (zI ((if 0 ≤ ((v2 % 20) - (v1 % 20)) then ((v2 % 20) - (v1 % 20)) else -((v2 % 20) - (v1 % 20))) + (if 0 ≤ ((v2 / 20) - (v1 / 20)) then ((v2 / 20) - (v1 / 20)) else -((v2 / 20) - (v1 / 20)))))]) dX1_winding_42 rfl (by decide) rfl ?_
  refine z_iload_n (i := 3) dX1_winding_43 rfl rfl ?_
  refine zb_if_ne (tgt := 52) dX1_winding_44 (by decide) h.1 ⟨fun c => ?_, fun c => ?_⟩
  · replace h := h.2.1 c
    refine z_sipush dX1_winding_52 (by decide +kernel) ?_
    refine z_aloadR_n (i := 0) dX1_winding_55 rfl rfl ?_
    refine z_getI' 1 2 (idx := 21) (fv := (d2 (a + 2) 2)) (rl2 ha) (by decide) (by decide) rfl (rlt2 ha) wf_X1_21 dX1_winding_56 rfl ?_
    refine z_iconst dX1_winding_59 ?_
    refine z_isub dX1_winding_60 ?_
    refine z_imul dX1_winding_61 ?_
    refine z_iload_n (i := 3) dX1_winding_62 rfl rfl ?_
    refine z_idiv dX1_winding_63 h.1 ?_
    replace h := h.2
    exact zret_i rfl dX1_winding_64 h
  · replace h := h.2.2 c
    refine z_bipush dX1_winding_47 (by decide +kernel) ?_
    refine z_goto (tgt := 64) dX1_winding_49 (by decide) ?_
    exact zret_i rfl dX1_winding_64 h
theorem e_X1_winding {g : zGG} {Q : Int → zMem → Prop} {d : zMem} {a : Nat} (ha : isRiv a) (h : Ev g M_X1_cellOf FUL FUL [zR (a + 2), zI 0] d (fun v1 d1 => Ev g M_X1_cellOf FUL FUL [zR (a + 2), zI ((d1 (a + 2) 2) - 1)] d1 (fun v2 d2 => (0 ≤ v2 ∧ inR v2) ∧ (0 ≤ v1 ∧ inR v1) ∧ (inR ((v2 % 20) - (v1 % 20))) ∧ (0 ≤ v2 ∧ inR v2) ∧ (0 ≤ v1 ∧ inR v1) ∧ (inR ((v2 / 20) - (v1 / 20))) ∧ ((inR ((if 0 ≤ ((v2 % 20) - (v1 % 20)) then ((v2 % 20) - (v1 % 20)) else -((v2 % 20) - (v1 % 20))) + (if 0 ≤ ((v2 / 20) - (v1 / 20)) then ((v2 / 20) - (v1 / 20)) else -((v2 / 20) - (v1 / 20))))) ∧ (((if 0 ≤ ((v2 % 20) - (v1 % 20)) then ((v2 % 20) - (v1 % 20)) else -((v2 % 20) - (v1 % 20))) + (if 0 ≤ ((v2 / 20) - (v1 / 20)) then ((v2 / 20) - (v1 / 20)) else -((v2 / 20) - (v1 / 20)))) ≠ 0 → (0 ≤ (1000 * ((d2 (a + 2) 2) - 1)) ∧ inR (1000 * ((d2 (a + 2) 2) - 1)) ∧ 0 < ((if 0 ≤ ((v2 % 20) - (v1 % 20)) then ((v2 % 20) - (v1 % 20)) else -((v2 % 20) - (v1 % 20))) + (if 0 ≤ ((v2 / 20) - (v1 / 20)) then ((v2 / 20) - (v1 / 20)) else -((v2 / 20) - (v1 / 20)))) ∧ inR ((if 0 ≤ ((v2 % 20) - (v1 % 20)) then ((v2 % 20) - (v1 % 20)) else -((v2 % 20) - (v1 % 20))) + (if 0 ≤ ((v2 / 20) - (v1 / 20)) then ((v2 / 20) - (v1 / 20)) else -((v2 / 20) - (v1 / 20))))) ∧ Q ((1000 * ((d2 (a + 2) 2) - 1)) / ((if 0 ≤ ((v2 % 20) - (v1 % 20)) then ((v2 % 20) - (v1 % 20)) else -((v2 % 20) - (v1 % 20))) + (if 0 ≤ ((v2 / 20) - (v1 / 20)) then ((v2 / 20) - (v1 / 20)) else -((v2 / 20) - (v1 / 20))))) d2) ∧ (((if 0 ≤ ((v2 % 20) - (v1 % 20)) then ((v2 % 20) - (v1 % 20)) else -((v2 % 20) - (v1 % 20))) + (if 0 ≤ ((v2 / 20) - (v1 / 20)) then ((v2 / 20) - (v1 / 20)) else -((v2 / 20) - (v1 / 20)))) = 0 → Q (-6) d2))))) : Ev g M_X1_winding FUL FUL [zR (a + 2)] d Q :=
  Ev_of (by decide +kernel) (Nat.le_of_ble_eq_true rfl) (v_X1_winding_0 ha h)
set_option maxRecDepth 20000 in
theorem v_X1_bulge_0 {g : zGG} {Q : Int → zMem → Prop} {d : zMem} {a : Nat} {x1 : Int} {x2 : Int} {x3 : Int} (ha : isRiv a)  (h : ((inR x1) ∧ (x1 < 0 → Q 0 d) ∧ (0 ≤ x1 → ((inR x2 ∧ inR x1) ∧ (x2 ≤ x1 → Q 0 d) ∧ (x1 < x2 → ((inR x2 ∧ inR (d (a + 2) 2)) ∧ ((d (a + 2) 2) ≤ x2 → Q 0 d) ∧ (x2 < (d (a + 2) 2) → ((inR ((d (a + 2) 2) + 2)) ∧ (((d (a + 2) 2) + 2) ≤ 150 → Ev g M_X1_leaveBetween FUL FUL [zR (a + 2), zI x1, zI x2] d (fun _ d1 => (Fr g (eM g M_X1_bulge FUL FUL Q) M_X1_bulge FUL 44 [some (zR (a + 2)), some (zI x1), some (zI x2), some (zI x3), some (zI ((d1 (a + 2) 2) - 1))] [] d1))) ∧ (150 < ((d (a + 2) 2) + 2) → Q 0 d))))))))) : Fr g (eM g M_X1_bulge FUL FUL Q) M_X1_bulge FUL 0 [some (zR (a + 2)), some (zI x1), some (zI x2), some (zI x3), none] [] d := by
  refine z_iload_n (i := 1) dX1_bulge_0 rfl rfl ?_
  refine zb_if_lt (tgt := 29) dX1_bulge_1 (by decide) h.1 ⟨fun c => ?_, fun c => ?_⟩
  · replace h := h.2.1 c
    exact zret_v rfl dX1_bulge_29 h
  · replace h := h.2.2 c
    refine z_iload_n (i := 2) dX1_bulge_4 rfl rfl ?_
    refine z_iload_n (i := 1) dX1_bulge_5 rfl rfl ?_
    refine zb_icmp_le (tgt := 29) dX1_bulge_6 (by decide) h.1 ⟨fun c => ?_, fun c => ?_⟩
    · replace h := h.2.1 c
      exact zret_v rfl dX1_bulge_29 h
    · replace h := h.2.2 c
      refine z_iload_n (i := 2) dX1_bulge_9 rfl rfl ?_
      refine z_aloadR_n (i := 0) dX1_bulge_10 rfl rfl ?_
      refine z_getI' 1 2 (idx := 21) (fv := (d (a + 2) 2)) (rl2 ha) (by decide) (by decide) rfl (rlt2 ha) wf_X1_21 dX1_bulge_11 rfl ?_
      refine zb_icmp_ge (tgt := 29) dX1_bulge_14 (by decide) h.1 ⟨fun c => ?_, fun c => ?_⟩
      · replace h := h.2.1 c
        exact zret_v rfl dX1_bulge_29 h
      · replace h := h.2.2 c
        refine z_aloadR_n (i := 0) dX1_bulge_17 rfl rfl ?_
        refine z_getI' 1 2 (idx := 21) (fv := (d (a + 2) 2)) (rl2 ha) (by decide) (by decide) rfl (rlt2 ha) wf_X1_21 dX1_bulge_18 rfl ?_
        refine z_iconst dX1_bulge_21 ?_
        refine z_iadd dX1_bulge_22 ?_
        refine z_sipush dX1_bulge_23 (by decide +kernel) ?_
        refine zb_icmp_le (tgt := 30) dX1_bulge_26 (by decide) ⟨h.1, by decide⟩ ⟨fun c => ?_, fun c => ?_⟩
        · replace h := h.2.1 c
          refine z_aloadR_n (i := 0) dX1_bulge_30 rfl rfl ?_
          refine z_iload_n (i := 1) dX1_bulge_31 rfl rfl ?_
          refine z_iload_n (i := 2) dX1_bulge_32 rfl rfl ?_
          refine z_callVv (k' := M_X1_leaveBetween) (As := [zI x1, zI x2]) (st := []) dX1_bulge_33 rfl (rl2 ha) (by decide) rfl (rlt2 ha) wm_X1_60 ok_X1_leaveBetween okV_X1_leaveBetween rfl (zroom_self (by decide) (by decide)) (Nat.le_of_ble_eq_true rfl) (Nat.le_refl _) rfl (Ev_mono h (fun _ d1 h => ?_))
          refine z_aloadR_n (i := 0) dX1_bulge_36 rfl rfl ?_
          refine z_getI' 1 2 (idx := 21) (fv := (d1 (a + 2) 2)) (rl2 ha) (by decide) (by decide) rfl (rlt2 ha) wf_X1_21 dX1_bulge_37 rfl ?_
          refine z_iconst dX1_bulge_40 ?_
          refine z_isub dX1_bulge_41 ?_
          refine z_istore (i := 4) (ls2 := [some (zR (a + 2)), some (zI x1), some (zI x2), some (zI x3), some (zI ((d1 (a + 2) 2) - 1))]) dX1_bulge_42 (by decide) rfl ?_
          exact h
        · replace h := h.2.2 c
          exact zret_v rfl dX1_bulge_29 h
theorem e_X1_bulge {g : zGG} {Q : Int → zMem → Prop} {d : zMem} {a : Nat} {x1 : Int} {x2 : Int} {x3 : Int} (ha : isRiv a) (h : ((inR x1) ∧ (x1 < 0 → Q 0 d) ∧ (0 ≤ x1 → ((inR x2 ∧ inR x1) ∧ (x2 ≤ x1 → Q 0 d) ∧ (x1 < x2 → ((inR x2 ∧ inR (d (a + 2) 2)) ∧ ((d (a + 2) 2) ≤ x2 → Q 0 d) ∧ (x2 < (d (a + 2) 2) → ((inR ((d (a + 2) 2) + 2)) ∧ (((d (a + 2) 2) + 2) ≤ 150 → Ev g M_X1_leaveBetween FUL FUL [zR (a + 2), zI x1, zI x2] d (fun _ d1 => (Fr g (eM g M_X1_bulge FUL FUL Q) M_X1_bulge FUL 44 [some (zR (a + 2)), some (zI x1), some (zI x2), some (zI x3), some (zI ((d1 (a + 2) 2) - 1))] [] d1))) ∧ (150 < ((d (a + 2) 2) + 2) → Q 0 d))))))))) : Ev g M_X1_bulge FUL FUL [zR (a + 2), zI x1, zI x2, zI x3] d Q :=
  Ev_of (by decide +kernel) (Nat.le_of_ble_eq_true rfl) (v_X1_bulge_0 ha h)
set_option maxRecDepth 20000 in
theorem v_X1_bulge_44 {g : zGG} {Q : Int → zMem → Prop} {d : zMem} {a : Nat} {x1 : Int} {x2 : Int} {x3 : Int} (ha : isRiv a) {x4 : Int} (h : ((inR x4 ∧ inR x2) ∧ (x4 < x2 → (Fr g (eM g M_X1_bulge FUL FUL Q) M_X1_bulge FUL 75 [some (zR (a + 2)), some (zI x1), some (zI x2), some (zI x3), some (zI x2)] [] d)) ∧ (x2 ≤ x4 → (0 ≤ x4 ∧ x4 < 150) ∧ (0 ≤ (x4 + 2) ∧ (x4 + 2) < 150) ∧ ∀ d1, d1 = mu d (a + 3) (x4 + 2) (d (a + 3) x4) → (Fr g (eM g M_X1_bulge FUL FUL Q) M_X1_bulge FUL 44 [some (zR (a + 2)), some (zI x1), some (zI x2), some (zI x3), some (zI (x4 + (-1)))] [] d1)))) : Fr g (eM g M_X1_bulge FUL FUL Q) M_X1_bulge FUL 44 [some (zR (a + 2)), some (zI x1), some (zI x2), some (zI x3), some (zI x4)] [] d := by
  refine z_iload (i := 4) dX1_bulge_44 rfl ?_
  refine z_iload_n (i := 2) dX1_bulge_46 rfl rfl ?_
  refine zb_icmp_lt (tgt := 72) dX1_bulge_47 (by decide) h.1 ⟨fun c => ?_, fun c => ?_⟩
  · replace h := h.2.1 c
    refine z_iload_n (i := 2) dX1_bulge_72 rfl rfl ?_
    refine z_istore (i := 4) (ls2 := [some (zR (a + 2)), some (zI x1), some (zI x2), some (zI x3), some (zI x2)]) dX1_bulge_73 (by decide) rfl ?_
    exact h
  · replace h := h.2.2 c
    refine z_aloadR_n (i := 0) dX1_bulge_50 rfl rfl ?_
    refine z_getR 1 0 (idx := 9) (rl2 ha) (by decide) (by decide) rfl (rlt2 ha) rfl (rt2_0 ha) wf_X1_9 dX1_bulge_51 ?_
    refine z_iload (i := 4) dX1_bulge_54 rfl ?_
    refine z_iconst dX1_bulge_56 ?_
    refine z_iadd dX1_bulge_57 ?_
    refine z_aloadR_n (i := 0) dX1_bulge_58 rfl rfl ?_
    refine z_getR 1 0 (idx := 9) (rl2 ha) (by decide) (by decide) rfl (rlt2 ha) rfl (rt2_0 ha) wf_X1_9 dX1_bulge_59 ?_
    refine z_iload (i := 4) dX1_bulge_62 rfl ?_
    refine z_iaload' (fv := (d (a + 3) x4)) (rl3 ha) (rlt3 ha) (by decide) dX1_bulge_64 h.1 rfl ?_
    replace h := h.2
    refine z_iastore (rl3 ha) (rlt3 ha) (by decide) dX1_bulge_65 h.1 ?_
    replace h := h.2
    generalize hd1 : mu d (a + 3) (x4 + 2) (d (a + 3) x4) = d1
    replace hd1 := hd1.symm
    replace h := h d1 hd1
    refine z_iinc (i := 4) (ls2 := [some (zR (a + 2)), some (zI x1), some (zI x2), some (zI x3), some (zI (x4 + (-1)))]) dX1_bulge_66 (by decide) rfl rfl ?_
    refine z_goto (tgt := 44) dX1_bulge_69 (by decide) ?_
    exact h
set_option maxRecDepth 20000 in
theorem v_X1_bulge_75 {g : zGG} {Q : Int → zMem → Prop} {d : zMem} {a : Nat} {x1 : Int} {x2 : Int} {x3 : Int} (ha : isRiv a) {x4 : Int} (h : ((inR x4 ∧ inR x1) ∧ (x4 < x1 → ∀ d1, d1 = mu d (a + 2) 2 ((d (a + 2) 2) + 2) → Ev g M_X1_numberAgain FUL FUL [zR (a + 2), zI x1] d1 (fun _ d2 => Q 0 d2)) ∧ (x1 ≤ x4 → (0 ≤ x4 ∧ x4 < 150) ∧ Ev g M_X8_beside FUL FUL [zI (d (a + 3) x4), zI x3] d (fun v1 d3 => (0 ≤ (x4 + 1) ∧ (x4 + 1) < 150) ∧ ∀ d4, d4 = mu d3 (a + 3) (x4 + 1) v1 → (Fr g (eM g M_X1_bulge FUL FUL Q) M_X1_bulge FUL 75 [some (zR (a + 2)), some (zI x1), some (zI x2), some (zI x3), some (zI (x4 + (-1)))] [] d4))))) : Fr g (eM g M_X1_bulge FUL FUL Q) M_X1_bulge FUL 75 [some (zR (a + 2)), some (zI x1), some (zI x2), some (zI x3), some (zI x4)] [] d := by
  refine z_iload (i := 4) dX1_bulge_75 rfl ?_
  refine z_iload_n (i := 1) dX1_bulge_77 rfl rfl ?_
  refine zb_icmp_lt (tgt := 107) dX1_bulge_78 (by decide) h.1 ⟨fun c => ?_, fun c => ?_⟩
  · replace h := h.2.1 c
    refine z_aloadR_n (i := 0) dX1_bulge_107 rfl rfl ?_
    refine z_dup dX1_bulge_108 (Nat.le_of_ble_eq_true rfl) ?_
    refine z_getI' 1 2 (idx := 21) (fv := (d (a + 2) 2)) (rl2 ha) (by decide) (by decide) rfl (rlt2 ha) wf_X1_21 dX1_bulge_109 rfl ?_
    refine z_iconst dX1_bulge_112 ?_
    refine z_iadd dX1_bulge_113 ?_
    refine z_putI 1 2 (idx := 21) (rl2 ha) (by decide) (by decide) rfl (rlt2 ha) rfl wf_X1_21 dX1_bulge_114 (Or.inl rfl) ?_
    generalize hd1 : mu d (a + 2) ((2 : Nat) : Int) ((d (a + 2) 2) + 2) = d1
    replace hd1 := hd1.symm
    replace h := h d1 hd1
    refine z_aloadR_n (i := 0) dX1_bulge_117 rfl rfl ?_
    refine z_iload_n (i := 1) dX1_bulge_118 rfl rfl ?_
    refine z_callVv (k' := M_X1_numberAgain) (As := [zI x1]) (st := []) dX1_bulge_119 rfl (rl2 ha) (by decide) rfl (rlt2 ha) wm_X1_64 ok_X1_numberAgain okV_X1_numberAgain rfl (zroom_self (by decide) (by decide)) (Nat.le_of_ble_eq_true rfl) (Nat.le_refl _) rfl (Ev_mono h (fun _ d2 h => ?_))
    exact zret_v rfl dX1_bulge_122 h
  · replace h := h.2.2 c
    refine z_aloadR_n (i := 0) dX1_bulge_81 rfl rfl ?_
    refine z_getR 1 0 (idx := 9) (rl2 ha) (by decide) (by decide) rfl (rlt2 ha) rfl (rt2_0 ha) wf_X1_9 dX1_bulge_82 ?_
    refine z_iload (i := 4) dX1_bulge_85 rfl ?_
    refine z_iconst dX1_bulge_87 ?_
    refine z_iadd dX1_bulge_88 ?_
    refine z_aloadR_n (i := 0) dX1_bulge_89 rfl rfl ?_
    refine z_getR 1 0 (idx := 9) (rl2 ha) (by decide) (by decide) rfl (rlt2 ha) rfl (rt2_0 ha) wf_X1_9 dX1_bulge_90 ?_
    refine z_iload (i := 4) dX1_bulge_93 rfl ?_
    refine z_iaload' (fv := (d (a + 3) x4)) (rl3 ha) (rlt3 ha) (by decide) dX1_bulge_95 h.1 rfl ?_
    replace h := h.2
    refine z_iload_n (i := 3) dX1_bulge_96 rfl rfl ?_
    refine z_callSN (k' := M_X8_beside) (As := [zI (d (a + 3) x4), zI x3]) (st := [zI (x4 + 1), zR (a + 3)]) dX1_bulge_97 rfl wm_X1_45 ok_X8_beside okS_X8_beside rfl (zroom_self (by decide) (by decide)) (Nat.le_of_ble_eq_true rfl) (Nat.le_refl _) (zEnd_i (Nat.le_refl _) rfl (fun _ _ q => q)) (Ev_mono h (fun v1 d3 h => ?_))
    refine z_iastore (rl3 ha) (rlt3 ha) (by decide) dX1_bulge_100 h.1 ?_
    replace h := h.2
    generalize hd4 : mu d3 (a + 3) (x4 + 1) v1 = d4
    replace hd4 := hd4.symm
    replace h := h d4 hd4
    refine z_iinc (i := 4) (ls2 := [some (zR (a + 2)), some (zI x1), some (zI x2), some (zI x3), some (zI (x4 + (-1)))]) dX1_bulge_101 (by decide) rfl rfl ?_
    refine z_goto (tgt := 75) dX1_bulge_104 (by decide) ?_
    exact h
set_option maxRecDepth 20000 in
theorem v_X1_shorten_0 {g : zGG} {Q : Int → zMem → Prop} {d : zMem} {a : Nat} {x1 : Int} {x2 : Int} (ha : isRiv a)  (h : ((inR x1) ∧ (x1 < 0 → Q 0 d) ∧ (0 ≤ x1 → ((inR x2 ∧ inR x1) ∧ (x2 ≤ x1 → Q 0 d) ∧ (x1 < x2 → ((inR x2 ∧ inR (d (a + 2) 2)) ∧ ((d (a + 2) 2) ≤ x2 → Q 0 d) ∧ (x2 < (d (a + 2) 2) → ((inR (d (a + 2) 2)) ∧ ((d (a + 2) 2) ≤ 150 → Ev g M_X1_leaveBetween FUL FUL [zR (a + 2), zI x1, zI x2] d (fun _ d1 => (Fr g (eM g M_X1_shorten FUL FUL Q) M_X1_shorten FUL 43 [some (zR (a + 2)), some (zI x1), some (zI x2), some (zI ((x2 - x1) - 1)), some (zI x2)] [] d1))) ∧ (150 < (d (a + 2) 2) → Q 0 d))))))))) : Fr g (eM g M_X1_shorten FUL FUL Q) M_X1_shorten FUL 0 [some (zR (a + 2)), some (zI x1), some (zI x2), none, none] [] d := by
  refine z_iload_n (i := 1) dX1_shorten_0 rfl rfl ?_
  refine zb_if_lt (tgt := 27) dX1_shorten_1 (by decide) h.1 ⟨fun c => ?_, fun c => ?_⟩
  · replace h := h.2.1 c
    exact zret_v rfl dX1_shorten_27 h
  · replace h := h.2.2 c
    refine z_iload_n (i := 2) dX1_shorten_4 rfl rfl ?_
    refine z_iload_n (i := 1) dX1_shorten_5 rfl rfl ?_
    refine zb_icmp_le (tgt := 27) dX1_shorten_6 (by decide) h.1 ⟨fun c => ?_, fun c => ?_⟩
    · replace h := h.2.1 c
      exact zret_v rfl dX1_shorten_27 h
    · replace h := h.2.2 c
      refine z_iload_n (i := 2) dX1_shorten_9 rfl rfl ?_
      refine z_aloadR_n (i := 0) dX1_shorten_10 rfl rfl ?_
      refine z_getI' 1 2 (idx := 21) (fv := (d (a + 2) 2)) (rl2 ha) (by decide) (by decide) rfl (rlt2 ha) wf_X1_21 dX1_shorten_11 rfl ?_
      refine zb_icmp_ge (tgt := 27) dX1_shorten_14 (by decide) h.1 ⟨fun c => ?_, fun c => ?_⟩
      · replace h := h.2.1 c
        exact zret_v rfl dX1_shorten_27 h
      · replace h := h.2.2 c
        refine z_aloadR_n (i := 0) dX1_shorten_17 rfl rfl ?_
        refine z_getI' 1 2 (idx := 21) (fv := (d (a + 2) 2)) (rl2 ha) (by decide) (by decide) rfl (rlt2 ha) wf_X1_21 dX1_shorten_18 rfl ?_
        refine z_sipush dX1_shorten_21 (by decide +kernel) ?_
        refine zb_icmp_le (tgt := 28) dX1_shorten_24 (by decide) ⟨h.1, by decide⟩ ⟨fun c => ?_, fun c => ?_⟩
        · replace h := h.2.1 c
          refine z_aloadR_n (i := 0) dX1_shorten_28 rfl rfl ?_
          refine z_iload_n (i := 1) dX1_shorten_29 rfl rfl ?_
          refine z_iload_n (i := 2) dX1_shorten_30 rfl rfl ?_
          refine z_callVv (k' := M_X1_leaveBetween) (As := [zI x1, zI x2]) (st := []) dX1_shorten_31 rfl (rl2 ha) (by decide) rfl (rlt2 ha) wm_X1_60 ok_X1_leaveBetween okV_X1_leaveBetween rfl (zroom_self (by decide) (by decide)) (Nat.le_of_ble_eq_true rfl) (Nat.le_refl _) rfl (Ev_mono h (fun _ d1 h => ?_))
          refine z_iload_n (i := 2) dX1_shorten_34 rfl rfl ?_
          refine z_iload_n (i := 1) dX1_shorten_35 rfl rfl ?_
          refine z_isub dX1_shorten_36 ?_
          refine z_iconst dX1_shorten_37 ?_
          refine z_isub dX1_shorten_38 ?_
          refine z_istore_n (i := 3) (ls2 := [some (zR (a + 2)), some (zI x1), some (zI x2), some (zI ((x2 - x1) - 1)), none]) dX1_shorten_39 rfl (by decide) rfl ?_
          refine z_iload_n (i := 2) dX1_shorten_40 rfl rfl ?_
          refine z_istore (i := 4) (ls2 := [some (zR (a + 2)), some (zI x1), some (zI x2), some (zI ((x2 - x1) - 1)), some (zI x2)]) dX1_shorten_41 (by decide) rfl ?_
          exact h
        · replace h := h.2.2 c
          exact zret_v rfl dX1_shorten_27 h
theorem e_X1_shorten {g : zGG} {Q : Int → zMem → Prop} {d : zMem} {a : Nat} {x1 : Int} {x2 : Int} (ha : isRiv a) (h : ((inR x1) ∧ (x1 < 0 → Q 0 d) ∧ (0 ≤ x1 → ((inR x2 ∧ inR x1) ∧ (x2 ≤ x1 → Q 0 d) ∧ (x1 < x2 → ((inR x2 ∧ inR (d (a + 2) 2)) ∧ ((d (a + 2) 2) ≤ x2 → Q 0 d) ∧ (x2 < (d (a + 2) 2) → ((inR (d (a + 2) 2)) ∧ ((d (a + 2) 2) ≤ 150 → Ev g M_X1_leaveBetween FUL FUL [zR (a + 2), zI x1, zI x2] d (fun _ d1 => (Fr g (eM g M_X1_shorten FUL FUL Q) M_X1_shorten FUL 43 [some (zR (a + 2)), some (zI x1), some (zI x2), some (zI ((x2 - x1) - 1)), some (zI x2)] [] d1))) ∧ (150 < (d (a + 2) 2) → Q 0 d))))))))) : Ev g M_X1_shorten FUL FUL [zR (a + 2), zI x1, zI x2] d Q :=
  Ev_of (by decide +kernel) (Nat.le_of_ble_eq_true rfl) (v_X1_shorten_0 ha h)
set_option maxRecDepth 20000 in
theorem v_X1_shorten_43 {g : zGG} {Q : Int → zMem → Prop} {d : zMem} {a : Nat} {x1 : Int} {x2 : Int} (ha : isRiv a) {x3 : Int} {x4 : Int} (h : ((inR x4 ∧ inR (d (a + 2) 2)) ∧ ((d (a + 2) 2) ≤ x4 → ∀ d1, d1 = mu d (a + 2) 2 ((d (a + 2) 2) - x3) → Ev g M_X1_numberAgain FUL FUL [zR (a + 2), zI x1] d1 (fun _ d2 => Q 0 d2)) ∧ (x4 < (d (a + 2) 2) → (0 ≤ x4 ∧ x4 < 150) ∧ (0 ≤ (x4 - x3) ∧ (x4 - x3) < 150) ∧ ∀ d3, d3 = mu d (a + 3) (x4 - x3) (d (a + 3) x4) → (Fr g (eM g M_X1_shorten FUL FUL Q) M_X1_shorten FUL 43 [some (zR (a + 2)), some (zI x1), some (zI x2), some (zI x3), some (zI (x4 + 1))] [] d3)))) : Fr g (eM g M_X1_shorten FUL FUL Q) M_X1_shorten FUL 43 [some (zR (a + 2)), some (zI x1), some (zI x2), some (zI x3), some (zI x4)] [] d := by
  refine z_iload (i := 4) dX1_shorten_43 rfl ?_
  refine z_aloadR_n (i := 0) dX1_shorten_45 rfl rfl ?_
  refine z_getI' 1 2 (idx := 21) (fv := (d (a + 2) 2)) (rl2 ha) (by decide) (by decide) rfl (rlt2 ha) wf_X1_21 dX1_shorten_46 rfl ?_
  refine zb_icmp_ge (tgt := 74) dX1_shorten_49 (by decide) h.1 ⟨fun c => ?_, fun c => ?_⟩
  · replace h := h.2.1 c
    refine z_aloadR_n (i := 0) dX1_shorten_74 rfl rfl ?_
    refine z_dup dX1_shorten_75 (Nat.le_of_ble_eq_true rfl) ?_
    refine z_getI' 1 2 (idx := 21) (fv := (d (a + 2) 2)) (rl2 ha) (by decide) (by decide) rfl (rlt2 ha) wf_X1_21 dX1_shorten_76 rfl ?_
    refine z_iload_n (i := 3) dX1_shorten_79 rfl rfl ?_
    refine z_isub dX1_shorten_80 ?_
    refine z_putI 1 2 (idx := 21) (rl2 ha) (by decide) (by decide) rfl (rlt2 ha) rfl wf_X1_21 dX1_shorten_81 (Or.inl rfl) ?_
    generalize hd1 : mu d (a + 2) ((2 : Nat) : Int) ((d (a + 2) 2) - x3) = d1
    replace hd1 := hd1.symm
    replace h := h d1 hd1
    refine z_aloadR_n (i := 0) dX1_shorten_84 rfl rfl ?_
    refine z_iload_n (i := 1) dX1_shorten_85 rfl rfl ?_
    refine z_callVv (k' := M_X1_numberAgain) (As := [zI x1]) (st := []) dX1_shorten_86 rfl (rl2 ha) (by decide) rfl (rlt2 ha) wm_X1_64 ok_X1_numberAgain okV_X1_numberAgain rfl (zroom_self (by decide) (by decide)) (Nat.le_of_ble_eq_true rfl) (Nat.le_refl _) rfl (Ev_mono h (fun _ d2 h => ?_))
    exact zret_v rfl dX1_shorten_89 h
  · replace h := h.2.2 c
    refine z_aloadR_n (i := 0) dX1_shorten_52 rfl rfl ?_
    refine z_getR 1 0 (idx := 9) (rl2 ha) (by decide) (by decide) rfl (rlt2 ha) rfl (rt2_0 ha) wf_X1_9 dX1_shorten_53 ?_
    refine z_iload (i := 4) dX1_shorten_56 rfl ?_
    refine z_iload_n (i := 3) dX1_shorten_58 rfl rfl ?_
    refine z_isub dX1_shorten_59 ?_
    refine z_aloadR_n (i := 0) dX1_shorten_60 rfl rfl ?_
    refine z_getR 1 0 (idx := 9) (rl2 ha) (by decide) (by decide) rfl (rlt2 ha) rfl (rt2_0 ha) wf_X1_9 dX1_shorten_61 ?_
    refine z_iload (i := 4) dX1_shorten_64 rfl ?_
    refine z_iaload' (fv := (d (a + 3) x4)) (rl3 ha) (rlt3 ha) (by decide) dX1_shorten_66 h.1 rfl ?_
    replace h := h.2
    refine z_iastore (rl3 ha) (rlt3 ha) (by decide) dX1_shorten_67 h.1 ?_
    replace h := h.2
    generalize hd3 : mu d (a + 3) (x4 - x3) (d (a + 3) x4) = d3
    replace hd3 := hd3.symm
    replace h := h d3 hd3
    refine z_iinc (i := 4) (ls2 := [some (zR (a + 2)), some (zI x1), some (zI x2), some (zI x3), some (zI (x4 + 1))]) dX1_shorten_68 (by decide) rfl rfl ?_
    refine z_goto (tgt := 43) dX1_shorten_71 (by decide) ?_
    exact h
set_option maxRecDepth 20000 in
theorem v_X1_leaveBetween_0 {g : zGG} {Q : Int → zMem → Prop} {d : zMem} {a : Nat} {x1 : Int} {x2 : Int} (ha : isRiv a)  (h : (Fr g (eM g M_X1_leaveBetween FUL FUL Q) M_X1_leaveBetween FUL 4 [some (zR (a + 2)), some (zI x1), some (zI x2), some (zI (x1 + 1)), none] [] d)) : Fr g (eM g M_X1_leaveBetween FUL FUL Q) M_X1_leaveBetween FUL 0 [some (zR (a + 2)), some (zI x1), some (zI x2), none, none] [] d := by
  refine z_iload_n (i := 1) dX1_leaveBetween_0 rfl rfl ?_
  refine z_iconst dX1_leaveBetween_1 ?_
  refine z_iadd dX1_leaveBetween_2 ?_
  refine z_istore_n (i := 3) (ls2 := [some (zR (a + 2)), some (zI x1), some (zI x2), some (zI (x1 + 1)), none]) dX1_leaveBetween_3 rfl (by decide) rfl ?_
  exact h
theorem e_X1_leaveBetween {g : zGG} {Q : Int → zMem → Prop} {d : zMem} {a : Nat} {x1 : Int} {x2 : Int} (ha : isRiv a) (h : (Fr g (eM g M_X1_leaveBetween FUL FUL Q) M_X1_leaveBetween FUL 4 [some (zR (a + 2)), some (zI x1), some (zI x2), some (zI (x1 + 1)), none] [] d)) : Ev g M_X1_leaveBetween FUL FUL [zR (a + 2), zI x1, zI x2] d Q :=
  Ev_of (by decide +kernel) (Nat.le_of_ble_eq_true rfl) (v_X1_leaveBetween_0 ha h)
set_option maxRecDepth 20000 in
theorem v_X1_leaveBetween_4 {g : zGG} {Q : Int → zMem → Prop} {d : zMem} {a : Nat} {x1 : Int} {x2 : Int} (ha : isRiv a) {x3 : Int} (h : ((inR x3 ∧ inR x2) ∧ (x2 ≤ x3 → Q 0 d) ∧ (x3 < x2 → Ev g M_X1_cellOf FUL FUL [zR (a + 2), zI x3] d (fun v1 d1 => Ev g M_X8_isOnLand FUL FUL [zI v1] d1 (fun v2 d2 => ((inR v2) ∧ (v2 = 0 → (Fr g (eM g M_X1_leaveBetween FUL FUL Q) M_X1_leaveBetween FUL 4 [some (zR (a + 2)), some (zI x1), some (zI x2), some (zI (x3 + 1)), none] [] d2)) ∧ (v2 ≠ 0 → (0 ≤ v1 ∧ v1 < 240) ∧ ∀ d3, d3 = mu d2 (a + 4) v1 (-1) → (Fr g (eM g M_X1_leaveBetween FUL FUL Q) M_X1_leaveBetween FUL 4 [some (zR (a + 2)), some (zI x1), some (zI x2), some (zI (x3 + 1)), none] [] d3)))))))) : Fr g (eM g M_X1_leaveBetween FUL FUL Q) M_X1_leaveBetween FUL 4 [some (zR (a + 2)), some (zI x1), some (zI x2), some (zI x3), none] [] d := by
  refine z_iload_n (i := 3) dX1_leaveBetween_4 rfl rfl ?_
  refine z_iload_n (i := 2) dX1_leaveBetween_5 rfl rfl ?_
  refine zb_icmp_ge (tgt := 38) dX1_leaveBetween_6 (by decide) h.1 ⟨fun c => ?_, fun c => ?_⟩
  · replace h := h.2.1 c
    exact zret_v rfl dX1_leaveBetween_38 h
  · replace h := h.2.2 c
    refine z_aloadR_n (i := 0) dX1_leaveBetween_9 rfl rfl ?_
    refine z_iload_n (i := 3) dX1_leaveBetween_10 rfl rfl ?_
    refine z_callVi (k' := M_X1_cellOf) (As := [zI x3]) (st := []) dX1_leaveBetween_11 rfl (rl2 ha) (by decide) rfl (rlt2 ha) wm_X1_41 ok_X1_cellOf okV_X1_cellOf rfl (zroom_self (by decide) (by decide)) (Nat.le_of_ble_eq_true rfl) (Nat.le_refl _) rfl (Ev_mono h (fun v1 d1 h => ?_))
    refine z_istore (i := 4) (ls2 := [some (zR (a + 2)), some (zI x1), some (zI x2), some (zI x3), some (zI v1)]) dX1_leaveBetween_14 (by decide) rfl ?_
    refine z_iload (i := 4) dX1_leaveBetween_16 rfl ?_
    refine z_callSN (k' := M_X8_isOnLand) (As := [zI v1]) (st := []) dX1_leaveBetween_18 rfl wm_X1_37 ok_X8_isOnLand okS_X8_isOnLand rfl (zroom_self (by decide) (by decide)) (Nat.le_of_ble_eq_true rfl) (Nat.le_refl _) (zEnd_i (Nat.le_refl _) rfl (fun _ _ q => q)) (Ev_mono h (fun v2 d2 h => ?_))
    refine zb_if_eq (tgt := 32) dX1_leaveBetween_21 (by decide) h.1 ⟨fun c => ?_, fun c => ?_⟩
    · replace h := h.2.1 c
      refine z_iinc (i := 3) (ls2 := [some (zR (a + 2)), some (zI x1), some (zI x2), some (zI (x3 + 1)), some (zI v1)]) dX1_leaveBetween_32 (by decide) rfl rfl ?_
      refine z_goto (tgt := 4) dX1_leaveBetween_35 (by decide) ?_
      exact Fr_weak (ls2 := [some (zR (a + 2)), some (zI x1), some (zI x2), some (zI (x3 + 1)), none]) (by exact ⟨Or.inr rfl, Or.inr rfl, Or.inr rfl, Or.inr rfl, Or.inl rfl, trivial⟩) h
    · replace h := h.2.2 c
      refine z_aloadR_n (i := 0) dX1_leaveBetween_24 rfl rfl ?_
      refine z_getR 1 1 (idx := 15) (rl2 ha) (by decide) (by decide) rfl (rlt2 ha) rfl (rt2_1 ha) wf_X1_15 dX1_leaveBetween_25 ?_
      refine z_iload (i := 4) dX1_leaveBetween_28 rfl ?_
      refine z_iconst dX1_leaveBetween_30 ?_
      refine z_iastore (rl4 ha) (rlt4 ha) (by decide) dX1_leaveBetween_31 h.1 ?_
      replace h := h.2
      generalize hd3 : mu d2 (a + 4) v1 (-1) = d3
      replace hd3 := hd3.symm
      replace h := h d3 hd3
      refine z_iinc (i := 3) (ls2 := [some (zR (a + 2)), some (zI x1), some (zI x2), some (zI (x3 + 1)), some (zI v1)]) dX1_leaveBetween_32 (by decide) rfl rfl ?_
      refine z_goto (tgt := 4) dX1_leaveBetween_35 (by decide) ?_
      exact Fr_weak (ls2 := [some (zR (a + 2)), some (zI x1), some (zI x2), some (zI (x3 + 1)), none]) (by exact ⟨Or.inr rfl, Or.inr rfl, Or.inr rfl, Or.inr rfl, Or.inl rfl, trivial⟩) h
set_option maxRecDepth 20000 in
theorem v_X1_numberAgain_0 {g : zGG} {Q : Int → zMem → Prop} {d : zMem} {a : Nat} {x1 : Int} (ha : isRiv a)  (h : (Fr g (eM g M_X1_numberAgain FUL FUL Q) M_X1_numberAgain FUL 2 [some (zR (a + 2)), some (zI x1), some (zI x1), none] [] d)) : Fr g (eM g M_X1_numberAgain FUL FUL Q) M_X1_numberAgain FUL 0 [some (zR (a + 2)), some (zI x1), none, none] [] d := by
  refine z_iload_n (i := 1) dX1_numberAgain_0 rfl rfl ?_
  refine z_istore_n (i := 2) (ls2 := [some (zR (a + 2)), some (zI x1), some (zI x1), none]) dX1_numberAgain_1 rfl (by decide) rfl ?_
  exact h
theorem e_X1_numberAgain {g : zGG} {Q : Int → zMem → Prop} {d : zMem} {a : Nat} {x1 : Int} (ha : isRiv a) (h : (Fr g (eM g M_X1_numberAgain FUL FUL Q) M_X1_numberAgain FUL 2 [some (zR (a + 2)), some (zI x1), some (zI x1), none] [] d)) : Ev g M_X1_numberAgain FUL FUL [zR (a + 2), zI x1] d Q :=
  Ev_of (by decide +kernel) (Nat.le_of_ble_eq_true rfl) (v_X1_numberAgain_0 ha h)
set_option maxRecDepth 20000 in
theorem v_X1_numberAgain_2 {g : zGG} {Q : Int → zMem → Prop} {d : zMem} {a : Nat} {x1 : Int} (ha : isRiv a) {x2 : Int} (h : ((inR x2 ∧ inR (d (a + 2) 2)) ∧ ((d (a + 2) 2) ≤ x2 → Q 0 d) ∧ (x2 < (d (a + 2) 2) → Ev g M_X1_cellOf FUL FUL [zR (a + 2), zI x2] d (fun v1 d1 => Ev g M_X8_isOnLand FUL FUL [zI v1] d1 (fun v2 d2 => ((inR v2) ∧ (v2 = 0 → (Fr g (eM g M_X1_numberAgain FUL FUL Q) M_X1_numberAgain FUL 2 [some (zR (a + 2)), some (zI x1), some (zI (x2 + 1)), none] [] d2)) ∧ (v2 ≠ 0 → (0 ≤ v1 ∧ v1 < 240) ∧ ∀ d3, d3 = mu d2 (a + 4) v1 x2 → (Fr g (eM g M_X1_numberAgain FUL FUL Q) M_X1_numberAgain FUL 2 [some (zR (a + 2)), some (zI x1), some (zI (x2 + 1)), none] [] d3)))))))) : Fr g (eM g M_X1_numberAgain FUL FUL Q) M_X1_numberAgain FUL 2 [some (zR (a + 2)), some (zI x1), some (zI x2), none] [] d := by
  refine z_iload_n (i := 2) dX1_numberAgain_2 rfl rfl ?_
  refine z_aloadR_n (i := 0) dX1_numberAgain_3 rfl rfl ?_
  refine z_getI' 1 2 (idx := 21) (fv := (d (a + 2) 2)) (rl2 ha) (by decide) (by decide) rfl (rlt2 ha) wf_X1_21 dX1_numberAgain_4 rfl ?_
  refine zb_icmp_ge (tgt := 36) dX1_numberAgain_7 (by decide) h.1 ⟨fun c => ?_, fun c => ?_⟩
  · replace h := h.2.1 c
    exact zret_v rfl dX1_numberAgain_36 h
  · replace h := h.2.2 c
    refine z_aloadR_n (i := 0) dX1_numberAgain_10 rfl rfl ?_
    refine z_iload_n (i := 2) dX1_numberAgain_11 rfl rfl ?_
    refine z_callVi (k' := M_X1_cellOf) (As := [zI x2]) (st := []) dX1_numberAgain_12 rfl (rl2 ha) (by decide) rfl (rlt2 ha) wm_X1_41 ok_X1_cellOf okV_X1_cellOf rfl (zroom_self (by decide) (by decide)) (Nat.le_of_ble_eq_true rfl) (Nat.le_refl _) rfl (Ev_mono h (fun v1 d1 h => ?_))
    refine z_istore_n (i := 3) (ls2 := [some (zR (a + 2)), some (zI x1), some (zI x2), some (zI v1)]) dX1_numberAgain_15 rfl (by decide) rfl ?_
    refine z_iload_n (i := 3) dX1_numberAgain_16 rfl rfl ?_
    refine z_callSN (k' := M_X8_isOnLand) (As := [zI v1]) (st := []) dX1_numberAgain_17 rfl wm_X1_37 ok_X8_isOnLand okS_X8_isOnLand rfl (zroom_self (by decide) (by decide)) (Nat.le_of_ble_eq_true rfl) (Nat.le_refl _) (zEnd_i (Nat.le_refl _) rfl (fun _ _ q => q)) (Ev_mono h (fun v2 d2 h => ?_))
    refine zb_if_eq (tgt := 30) dX1_numberAgain_20 (by decide) h.1 ⟨fun c => ?_, fun c => ?_⟩
    · replace h := h.2.1 c
      refine z_iinc (i := 2) (ls2 := [some (zR (a + 2)), some (zI x1), some (zI (x2 + 1)), some (zI v1)]) dX1_numberAgain_30 (by decide) rfl rfl ?_
      refine z_goto (tgt := 2) dX1_numberAgain_33 (by decide) ?_
      exact Fr_weak (ls2 := [some (zR (a + 2)), some (zI x1), some (zI (x2 + 1)), none]) (by exact ⟨Or.inr rfl, Or.inr rfl, Or.inr rfl, Or.inl rfl, trivial⟩) h
    · replace h := h.2.2 c
      refine z_aloadR_n (i := 0) dX1_numberAgain_23 rfl rfl ?_
      refine z_getR 1 1 (idx := 15) (rl2 ha) (by decide) (by decide) rfl (rlt2 ha) rfl (rt2_1 ha) wf_X1_15 dX1_numberAgain_24 ?_
      refine z_iload_n (i := 3) dX1_numberAgain_27 rfl rfl ?_
      refine z_iload_n (i := 2) dX1_numberAgain_28 rfl rfl ?_
      refine z_iastore (rl4 ha) (rlt4 ha) (by decide) dX1_numberAgain_29 h.1 ?_
      replace h := h.2
      generalize hd3 : mu d2 (a + 4) v1 x2 = d3
      replace hd3 := hd3.symm
      replace h := h d3 hd3
      refine z_iinc (i := 2) (ls2 := [some (zR (a + 2)), some (zI x1), some (zI (x2 + 1)), some (zI v1)]) dX1_numberAgain_30 (by decide) rfl rfl ?_
      refine z_goto (tgt := 2) dX1_numberAgain_33 (by decide) ?_
      exact Fr_weak (ls2 := [some (zR (a + 2)), some (zI x1), some (zI (x2 + 1)), none]) (by exact ⟨Or.inr rfl, Or.inr rfl, Or.inr rfl, Or.inl rfl, trivial⟩) h
end
