-- ===== PART A: goes FIRST, ahead of the names: the tables' words, and 'selects' of the private methods out of them =====
/-- a private method of a class that the tables say can be made, by its rows of tables_1 -/
def lw_okq (q : MethodName × Nat) : Prop := (q.1.cls ≠ "java/lang/invoke/MethodHandle" ∧ q.1.cls ≠ "java/lang/invoke/VarHandle") ∧ Cond.instantiable q.1.cls q.2 ∈ tables_1 ∧ Cond.privateMethod q.1 ∈ tables_1 ∧ Cond.instanceMethod q.1 ∈ tables_1
theorem lw_p0 : lw_okq (⟨"OxbowReaches$Pad", "scanNumber", "(IC)I"⟩, 7) := ⟨⟨by decide +kernel, by decide +kernel⟩, List.mem_of_getElem? (i := 159) (by decide +kernel), List.mem_of_getElem? (i := 324) (by decide +kernel), List.mem_of_getElem? (i := 325) (by decide +kernel)⟩
theorem lw_p1 : lw_okq (⟨"OxbowReaches$Pad", "digitAt", "(I)I"⟩, 7) := ⟨⟨by decide +kernel, by decide +kernel⟩, List.mem_of_getElem? (i := 159) (by decide +kernel), List.mem_of_getElem? (i := 328) (by decide +kernel), List.mem_of_getElem? (i := 329) (by decide +kernel)⟩
theorem lw_p2 : lw_okq (⟨"OxbowReaches$Pad", "signAt", "(I)I"⟩, 7) := ⟨⟨by decide +kernel, by decide +kernel⟩, List.mem_of_getElem? (i := 159) (by decide +kernel), List.mem_of_getElem? (i := 332) (by decide +kernel), List.mem_of_getElem? (i := 333) (by decide +kernel)⟩
theorem lw_p3 : lw_okq (⟨"OxbowReaches$Pad", "scanSteps", "()Z"⟩, 7) := ⟨⟨by decide +kernel, by decide +kernel⟩, List.mem_of_getElem? (i := 159) (by decide +kernel), List.mem_of_getElem? (i := 336) (by decide +kernel), List.mem_of_getElem? (i := 337) (by decide +kernel)⟩
theorem lw_p4 : lw_okq (⟨"OxbowReaches$Pad", "wayAt", "(I)I"⟩, 7) := ⟨⟨by decide +kernel, by decide +kernel⟩, List.mem_of_getElem? (i := 159) (by decide +kernel), List.mem_of_getElem? (i := 340) (by decide +kernel), List.mem_of_getElem? (i := 341) (by decide +kernel)⟩
theorem lw_p5 : lw_okq (⟨"OxbowReaches$Pad", "addSteps", "(II)V"⟩, 7) := ⟨⟨by decide +kernel, by decide +kernel⟩, List.mem_of_getElem? (i := 159) (by decide +kernel), List.mem_of_getElem? (i := 344) (by decide +kernel), List.mem_of_getElem? (i := 345) (by decide +kernel)⟩
theorem lw_p6 : lw_okq (⟨"OxbowReaches$River", "addFlood", "(I)V"⟩, 11) := ⟨⟨by decide +kernel, by decide +kernel⟩, List.mem_of_getElem? (i := 23) (by decide +kernel), List.mem_of_getElem? (i := 414) (by decide +kernel), List.mem_of_getElem? (i := 415) (by decide +kernel)⟩
theorem lw_p7 : lw_okq (⟨"OxbowReaches$River", "removeFlood", "(I)V"⟩, 11) := ⟨⟨by decide +kernel, by decide +kernel⟩, List.mem_of_getElem? (i := 23) (by decide +kernel), List.mem_of_getElem? (i := 418) (by decide +kernel), List.mem_of_getElem? (i := 419) (by decide +kernel)⟩
theorem lw_p8 : lw_okq (⟨"OxbowReaches$Course", "leaveBetween", "(II)V"⟩, 3) := ⟨⟨by decide +kernel, by decide +kernel⟩, List.mem_of_getElem? (i := 31) (by decide +kernel), List.mem_of_getElem? (i := 467) (by decide +kernel), List.mem_of_getElem? (i := 468) (by decide +kernel)⟩
theorem lw_p9 : lw_okq (⟨"OxbowReaches$Course", "numberAgain", "(I)V"⟩, 3) := ⟨⟨by decide +kernel, by decide +kernel⟩, List.mem_of_getElem? (i := 31) (by decide +kernel), List.mem_of_getElem? (i := 471) (by decide +kernel), List.mem_of_getElem? (i := 472) (by decide +kernel)⟩
theorem lw_p10 : lw_okq (⟨"OxbowReaches$Passing", "wearBanks", "(LOxbowReaches$River;Z)V"⟩, 5) := ⟨⟨by decide +kernel, by decide +kernel⟩, List.mem_of_getElem? (i := 187) (by decide +kernel), List.mem_of_getElem? (i := 484) (by decide +kernel), List.mem_of_getElem? (i := 485) (by decide +kernel)⟩
theorem lw_p11 : lw_okq (⟨"OxbowReaches$Passing", "growBends", "(LOxbowReaches$River;)V"⟩, 5) := ⟨⟨by decide +kernel, by decide +kernel⟩, List.mem_of_getElem? (i := 187) (by decide +kernel), List.mem_of_getElem? (i := 533) (by decide +kernel), List.mem_of_getElem? (i := 534) (by decide +kernel)⟩
theorem lw_p12 : lw_okq (⟨"OxbowReaches$Passing", "noteTaken", "(LOxbowReaches$River;)V"⟩, 5) := ⟨⟨by decide +kernel, by decide +kernel⟩, List.mem_of_getElem? (i := 187) (by decide +kernel), List.mem_of_getElem? (i := 552) (by decide +kernel), List.mem_of_getElem? (i := 553) (by decide +kernel)⟩
theorem lw_p13 : lw_okq (⟨"OxbowReaches$River", "agePair", "(II)V"⟩, 11) := ⟨⟨by decide +kernel, by decide +kernel⟩, List.mem_of_getElem? (i := 23) (by decide +kernel), List.mem_of_getElem? (i := 570) (by decide +kernel), List.mem_of_getElem? (i := 571) (by decide +kernel)⟩
theorem lw_p14 : lw_okq (⟨"OxbowReaches$Passing", "cutNecks", "(LOxbowReaches$River;Z)V"⟩, 5) := ⟨⟨by decide +kernel, by decide +kernel⟩, List.mem_of_getElem? (i := 187) (by decide +kernel), List.mem_of_getElem? (i := 578) (by decide +kernel), List.mem_of_getElem? (i := 579) (by decide +kernel)⟩
theorem lw_p15 : lw_okq (⟨"OxbowReaches", "countBends", "(Z)I"⟩, 9) := ⟨⟨by decide +kernel, by decide +kernel⟩, List.mem_of_getElem? (i := 15) (by decide +kernel), List.mem_of_getElem? (i := 652) (by decide +kernel), List.mem_of_getElem? (i := 653) (by decide +kernel)⟩
def lw_privs_1 : List (MethodName × Nat) := [(⟨"OxbowReaches$Pad", "scanNumber", "(IC)I"⟩, 7), (⟨"OxbowReaches$Pad", "digitAt", "(I)I"⟩, 7), (⟨"OxbowReaches$Pad", "signAt", "(I)I"⟩, 7), (⟨"OxbowReaches$Pad", "scanSteps", "()Z"⟩, 7), (⟨"OxbowReaches$Pad", "wayAt", "(I)I"⟩, 7), (⟨"OxbowReaches$Pad", "addSteps", "(II)V"⟩, 7), (⟨"OxbowReaches$River", "addFlood", "(I)V"⟩, 11), (⟨"OxbowReaches$River", "removeFlood", "(I)V"⟩, 11), (⟨"OxbowReaches$Course", "leaveBetween", "(II)V"⟩, 3), (⟨"OxbowReaches$Course", "numberAgain", "(I)V"⟩, 3), (⟨"OxbowReaches$Passing", "wearBanks", "(LOxbowReaches$River;Z)V"⟩, 5), (⟨"OxbowReaches$Passing", "growBends", "(LOxbowReaches$River;)V"⟩, 5), (⟨"OxbowReaches$Passing", "noteTaken", "(LOxbowReaches$River;)V"⟩, 5), (⟨"OxbowReaches$River", "agePair", "(II)V"⟩, 11), (⟨"OxbowReaches$Passing", "cutNecks", "(LOxbowReaches$River;Z)V"⟩, 5), (⟨"OxbowReaches", "countBends", "(Z)I"⟩, 9)]
theorem lw_r1 : ∀ q ∈ lw_privs_1, lw_okq q := List.forall_mem_cons.mpr ⟨lw_p0, List.forall_mem_cons.mpr ⟨lw_p1, List.forall_mem_cons.mpr ⟨lw_p2, List.forall_mem_cons.mpr ⟨lw_p3, List.forall_mem_cons.mpr ⟨lw_p4, List.forall_mem_cons.mpr ⟨lw_p5, List.forall_mem_cons.mpr ⟨lw_p6, List.forall_mem_cons.mpr ⟨lw_p7, List.forall_mem_cons.mpr ⟨lw_p8, List.forall_mem_cons.mpr ⟨lw_p9, List.forall_mem_cons.mpr ⟨lw_p10, List.forall_mem_cons.mpr ⟨lw_p11, List.forall_mem_cons.mpr ⟨lw_p12, List.forall_mem_cons.mpr ⟨lw_p13, List.forall_mem_cons.mpr ⟨lw_p14, List.forall_mem_cons.mpr ⟨lw_p15, fun _ h => absurd h List.not_mem_nil⟩⟩⟩⟩⟩⟩⟩⟩⟩⟩⟩⟩⟩⟩⟩⟩
theorem lw_p16 : lw_okq (⟨"OxbowReaches", "countNecks", "()I"⟩, 9) := ⟨⟨by decide +kernel, by decide +kernel⟩, List.mem_of_getElem? (i := 15) (by decide +kernel), List.mem_of_getElem? (i := 657) (by decide +kernel), List.mem_of_getElem? (i := 658) (by decide +kernel)⟩
theorem lw_p17 : lw_okq (⟨"OxbowReachesModel", "begin", "()V"⟩, 24) := ⟨⟨by decide +kernel, by decide +kernel⟩, List.mem_of_getElem? (i := 743) (by decide +kernel), List.mem_of_getElem? (i := 749) (by decide +kernel), List.mem_of_getElem? (i := 750) (by decide +kernel)⟩
theorem lw_p18 : lw_okq (⟨"OxbowReachesModel", "know", "()V"⟩, 24) := ⟨⟨by decide +kernel, by decide +kernel⟩, List.mem_of_getElem? (i := 743) (by decide +kernel), List.mem_of_getElem? (i := 833) (by decide +kernel), List.mem_of_getElem? (i := 834) (by decide +kernel)⟩
theorem lw_p19 : lw_okq (⟨"OxbowReachesModel", "numberOf", "(I)I"⟩, 24) := ⟨⟨by decide +kernel, by decide +kernel⟩, List.mem_of_getElem? (i := 743) (by decide +kernel), List.mem_of_getElem? (i := 844) (by decide +kernel), List.mem_of_getElem? (i := 845) (by decide +kernel)⟩
theorem lw_p20 : lw_okq (⟨"OxbowReachesModel", "dikes", "()I"⟩, 24) := ⟨⟨by decide +kernel, by decide +kernel⟩, List.mem_of_getElem? (i := 743) (by decide +kernel), List.mem_of_getElem? (i := 848) (by decide +kernel), List.mem_of_getElem? (i := 849) (by decide +kernel)⟩
theorem lw_p21 : lw_okq (⟨"OxbowReachesModel", "isFloodYear", "(I)Z"⟩, 24) := ⟨⟨by decide +kernel, by decide +kernel⟩, List.mem_of_getElem? (i := 743) (by decide +kernel), List.mem_of_getElem? (i := 856) (by decide +kernel), List.mem_of_getElem? (i := 857) (by decide +kernel)⟩
theorem lw_p22 : lw_okq (⟨"OxbowReachesModel", "findNeck", "(II)Z"⟩, 24) := ⟨⟨by decide +kernel, by decide +kernel⟩, List.mem_of_getElem? (i := 743) (by decide +kernel), List.mem_of_getElem? (i := 864) (by decide +kernel), List.mem_of_getElem? (i := 865) (by decide +kernel)⟩
theorem lw_p23 : lw_okq (⟨"OxbowReachesModel", "cutNeck", "()V"⟩, 24) := ⟨⟨by decide +kernel, by decide +kernel⟩, List.mem_of_getElem? (i := 743) (by decide +kernel), List.mem_of_getElem? (i := 874) (by decide +kernel), List.mem_of_getElem? (i := 875) (by decide +kernel)⟩
theorem lw_p24 : lw_okq (⟨"OxbowReachesModel", "dropOxbow", "(I)V"⟩, 24) := ⟨⟨by decide +kernel, by decide +kernel⟩, List.mem_of_getElem? (i := 743) (by decide +kernel), List.mem_of_getElem? (i := 878) (by decide +kernel), List.mem_of_getElem? (i := 879) (by decide +kernel)⟩
theorem lw_p25 : lw_okq (⟨"OxbowReachesModel", "goOn", "()I"⟩, 24) := ⟨⟨by decide +kernel, by decide +kernel⟩, List.mem_of_getElem? (i := 743) (by decide +kernel), List.mem_of_getElem? (i := 886) (by decide +kernel), List.mem_of_getElem? (i := 887) (by decide +kernel)⟩
theorem lw_p26 : lw_okq (⟨"OxbowReachesModel", "wear", "()V"⟩, 24) := ⟨⟨by decide +kernel, by decide +kernel⟩, List.mem_of_getElem? (i := 743) (by decide +kernel), List.mem_of_getElem? (i := 890) (by decide +kernel), List.mem_of_getElem? (i := 891) (by decide +kernel)⟩
theorem lw_p27 : lw_okq (⟨"OxbowReachesModel", "findBends", "()V"⟩, 24) := ⟨⟨by decide +kernel, by decide +kernel⟩, List.mem_of_getElem? (i := 743) (by decide +kernel), List.mem_of_getElem? (i := 894) (by decide +kernel), List.mem_of_getElem? (i := 895) (by decide +kernel)⟩
theorem lw_p28 : lw_okq (⟨"OxbowReachesModel", "way", "(I)I"⟩, 24) := ⟨⟨by decide +kernel, by decide +kernel⟩, List.mem_of_getElem? (i := 743) (by decide +kernel), List.mem_of_getElem? (i := 898) (by decide +kernel), List.mem_of_getElem? (i := 899) (by decide +kernel)⟩
theorem lw_p29 : lw_okq (⟨"OxbowReachesModel", "isFirm", "(I)Z"⟩, 24) := ⟨⟨by decide +kernel, by decide +kernel⟩, List.mem_of_getElem? (i := 743) (by decide +kernel), List.mem_of_getElem? (i := 902) (by decide +kernel), List.mem_of_getElem? (i := 903) (by decide +kernel)⟩
theorem lw_p30 : lw_okq (⟨"OxbowReachesModel", "bank", "(II)I"⟩, 24) := ⟨⟨by decide +kernel, by decide +kernel⟩, List.mem_of_getElem? (i := 743) (by decide +kernel), List.mem_of_getElem? (i := 906) (by decide +kernel), List.mem_of_getElem? (i := 907) (by decide +kernel)⟩
theorem lw_p31 : lw_okq (⟨"OxbowReachesModel", "wayOf", "(I)I"⟩, 24) := ⟨⟨by decide +kernel, by decide +kernel⟩, List.mem_of_getElem? (i := 743) (by decide +kernel), List.mem_of_getElem? (i := 910) (by decide +kernel), List.mem_of_getElem? (i := 911) (by decide +kernel)⟩
def lw_privs_2 : List (MethodName × Nat) := [(⟨"OxbowReaches", "countNecks", "()I"⟩, 9), (⟨"OxbowReachesModel", "begin", "()V"⟩, 24), (⟨"OxbowReachesModel", "know", "()V"⟩, 24), (⟨"OxbowReachesModel", "numberOf", "(I)I"⟩, 24), (⟨"OxbowReachesModel", "dikes", "()I"⟩, 24), (⟨"OxbowReachesModel", "isFloodYear", "(I)Z"⟩, 24), (⟨"OxbowReachesModel", "findNeck", "(II)Z"⟩, 24), (⟨"OxbowReachesModel", "cutNeck", "()V"⟩, 24), (⟨"OxbowReachesModel", "dropOxbow", "(I)V"⟩, 24), (⟨"OxbowReachesModel", "goOn", "()I"⟩, 24), (⟨"OxbowReachesModel", "wear", "()V"⟩, 24), (⟨"OxbowReachesModel", "findBends", "()V"⟩, 24), (⟨"OxbowReachesModel", "way", "(I)I"⟩, 24), (⟨"OxbowReachesModel", "isFirm", "(I)Z"⟩, 24), (⟨"OxbowReachesModel", "bank", "(II)I"⟩, 24), (⟨"OxbowReachesModel", "wayOf", "(I)I"⟩, 24)]
theorem lw_r2 : ∀ q ∈ lw_privs_2, lw_okq q := List.forall_mem_cons.mpr ⟨lw_p16, List.forall_mem_cons.mpr ⟨lw_p17, List.forall_mem_cons.mpr ⟨lw_p18, List.forall_mem_cons.mpr ⟨lw_p19, List.forall_mem_cons.mpr ⟨lw_p20, List.forall_mem_cons.mpr ⟨lw_p21, List.forall_mem_cons.mpr ⟨lw_p22, List.forall_mem_cons.mpr ⟨lw_p23, List.forall_mem_cons.mpr ⟨lw_p24, List.forall_mem_cons.mpr ⟨lw_p25, List.forall_mem_cons.mpr ⟨lw_p26, List.forall_mem_cons.mpr ⟨lw_p27, List.forall_mem_cons.mpr ⟨lw_p28, List.forall_mem_cons.mpr ⟨lw_p29, List.forall_mem_cons.mpr ⟨lw_p30, List.forall_mem_cons.mpr ⟨lw_p31, fun _ h => absurd h List.not_mem_nil⟩⟩⟩⟩⟩⟩⟩⟩⟩⟩⟩⟩⟩⟩⟩⟩
theorem lw_p32 : lw_okq (⟨"OxbowReachesModel", "growAll", "()V"⟩, 24) := ⟨⟨by decide +kernel, by decide +kernel⟩, List.mem_of_getElem? (i := 743) (by decide +kernel), List.mem_of_getElem? (i := 917) (by decide +kernel), List.mem_of_getElem? (i := 918) (by decide +kernel)⟩
theorem lw_p33 : lw_okq (⟨"OxbowReachesModel", "canGrow", "(I)Z"⟩, 24) := ⟨⟨by decide +kernel, by decide +kernel⟩, List.mem_of_getElem? (i := 743) (by decide +kernel), List.mem_of_getElem? (i := 921) (by decide +kernel), List.mem_of_getElem? (i := 922) (by decide +kernel)⟩
theorem lw_p34 : lw_okq (⟨"OxbowReachesModel", "leastWear", "(I)I"⟩, 24) := ⟨⟨by decide +kernel, by decide +kernel⟩, List.mem_of_getElem? (i := 743) (by decide +kernel), List.mem_of_getElem? (i := 925) (by decide +kernel), List.mem_of_getElem? (i := 926) (by decide +kernel)⟩
theorem lw_p35 : lw_okq (⟨"OxbowReachesModel", "grow", "(I)I"⟩, 24) := ⟨⟨by decide +kernel, by decide +kernel⟩, List.mem_of_getElem? (i := 743) (by decide +kernel), List.mem_of_getElem? (i := 929) (by decide +kernel), List.mem_of_getElem? (i := 930) (by decide +kernel)⟩
theorem lw_p36 : lw_okq (⟨"OxbowReachesModel", "age", "()V"⟩, 24) := ⟨⟨by decide +kernel, by decide +kernel⟩, List.mem_of_getElem? (i := 743) (by decide +kernel), List.mem_of_getElem? (i := 933) (by decide +kernel), List.mem_of_getElem? (i := 934) (by decide +kernel)⟩
theorem lw_p37 : lw_okq (⟨"OxbowReachesModel", "firm", "()I"⟩, 24) := ⟨⟨by decide +kernel, by decide +kernel⟩, List.mem_of_getElem? (i := 743) (by decide +kernel), List.mem_of_getElem? (i := 961) (by decide +kernel), List.mem_of_getElem? (i := 962) (by decide +kernel)⟩
theorem lw_p38 : lw_okq (⟨"OxbowReachesModel", "allNecks", "()I"⟩, 24) := ⟨⟨by decide +kernel, by decide +kernel⟩, List.mem_of_getElem? (i := 743) (by decide +kernel), List.mem_of_getElem? (i := 965) (by decide +kernel), List.mem_of_getElem? (i := 966) (by decide +kernel)⟩
theorem lw_p39 : lw_okq (⟨"OxbowReachesModel", "winding", "()I"⟩, 24) := ⟨⟨by decide +kernel, by decide +kernel⟩, List.mem_of_getElem? (i := 743) (by decide +kernel), List.mem_of_getElem? (i := 969) (by decide +kernel), List.mem_of_getElem? (i := 970) (by decide +kernel)⟩
theorem lw_p40 : lw_okq (⟨"OxbowReachesModel", "allWear", "()I"⟩, 24) := ⟨⟨by decide +kernel, by decide +kernel⟩, List.mem_of_getElem? (i := 743) (by decide +kernel), List.mem_of_getElem? (i := 976) (by decide +kernel), List.mem_of_getElem? (i := 977) (by decide +kernel)⟩
theorem lw_p41 : lw_okq (⟨"OxbowReachesModel", "putAside", "()V"⟩, 24) := ⟨⟨by decide +kernel, by decide +kernel⟩, List.mem_of_getElem? (i := 743) (by decide +kernel), List.mem_of_getElem? (i := 988) (by decide +kernel), List.mem_of_getElem? (i := 989) (by decide +kernel)⟩
theorem lw_p42 : lw_okq (⟨"OxbowReachesModel", "putBack", "()V"⟩, 24) := ⟨⟨by decide +kernel, by decide +kernel⟩, List.mem_of_getElem? (i := 743) (by decide +kernel), List.mem_of_getElem? (i := 992) (by decide +kernel), List.mem_of_getElem? (i := 993) (by decide +kernel)⟩
theorem lw_p43 : lw_okq (⟨"OxbowReachesModel", "readPad", "()V"⟩, 24) := ⟨⟨by decide +kernel, by decide +kernel⟩, List.mem_of_getElem? (i := 743) (by decide +kernel), List.mem_of_getElem? (i := 1017) (by decide +kernel), List.mem_of_getElem? (i := 1018) (by decide +kernel)⟩
theorem lw_p44 : lw_okq (⟨"OxbowReachesModel", "number", "(I)I"⟩, 24) := ⟨⟨by decide +kernel, by decide +kernel⟩, List.mem_of_getElem? (i := 743) (by decide +kernel), List.mem_of_getElem? (i := 1021) (by decide +kernel), List.mem_of_getElem? (i := 1022) (by decide +kernel)⟩
theorem lw_p45 : lw_okq (⟨"OxbowReachesModel", "sign", "(II)I"⟩, 24) := ⟨⟨by decide +kernel, by decide +kernel⟩, List.mem_of_getElem? (i := 743) (by decide +kernel), List.mem_of_getElem? (i := 1025) (by decide +kernel), List.mem_of_getElem? (i := 1026) (by decide +kernel)⟩
theorem lw_p46 : lw_okq (⟨"OxbowReachesModel", "isNext", "(II)Z"⟩, 24) := ⟨⟨by decide +kernel, by decide +kernel⟩, List.mem_of_getElem? (i := 743) (by decide +kernel), List.mem_of_getElem? (i := 1029) (by decide +kernel), List.mem_of_getElem? (i := 1030) (by decide +kernel)⟩
theorem lw_p47 : lw_okq (⟨"OxbowReachesModel", "tell", "(I)V"⟩, 24) := ⟨⟨by decide +kernel, by decide +kernel⟩, List.mem_of_getElem? (i := 743) (by decide +kernel), List.mem_of_getElem? (i := 1033) (by decide +kernel), List.mem_of_getElem? (i := 1034) (by decide +kernel)⟩
def lw_privs_3 : List (MethodName × Nat) := [(⟨"OxbowReachesModel", "growAll", "()V"⟩, 24), (⟨"OxbowReachesModel", "canGrow", "(I)Z"⟩, 24), (⟨"OxbowReachesModel", "leastWear", "(I)I"⟩, 24), (⟨"OxbowReachesModel", "grow", "(I)I"⟩, 24), (⟨"OxbowReachesModel", "age", "()V"⟩, 24), (⟨"OxbowReachesModel", "firm", "()I"⟩, 24), (⟨"OxbowReachesModel", "allNecks", "()I"⟩, 24), (⟨"OxbowReachesModel", "winding", "()I"⟩, 24), (⟨"OxbowReachesModel", "allWear", "()I"⟩, 24), (⟨"OxbowReachesModel", "putAside", "()V"⟩, 24), (⟨"OxbowReachesModel", "putBack", "()V"⟩, 24), (⟨"OxbowReachesModel", "readPad", "()V"⟩, 24), (⟨"OxbowReachesModel", "number", "(I)I"⟩, 24), (⟨"OxbowReachesModel", "sign", "(II)I"⟩, 24), (⟨"OxbowReachesModel", "isNext", "(II)Z"⟩, 24), (⟨"OxbowReachesModel", "tell", "(I)V"⟩, 24)]
theorem lw_r3 : ∀ q ∈ lw_privs_3, lw_okq q := List.forall_mem_cons.mpr ⟨lw_p32, List.forall_mem_cons.mpr ⟨lw_p33, List.forall_mem_cons.mpr ⟨lw_p34, List.forall_mem_cons.mpr ⟨lw_p35, List.forall_mem_cons.mpr ⟨lw_p36, List.forall_mem_cons.mpr ⟨lw_p37, List.forall_mem_cons.mpr ⟨lw_p38, List.forall_mem_cons.mpr ⟨lw_p39, List.forall_mem_cons.mpr ⟨lw_p40, List.forall_mem_cons.mpr ⟨lw_p41, List.forall_mem_cons.mpr ⟨lw_p42, List.forall_mem_cons.mpr ⟨lw_p43, List.forall_mem_cons.mpr ⟨lw_p44, List.forall_mem_cons.mpr ⟨lw_p45, List.forall_mem_cons.mpr ⟨lw_p46, List.forall_mem_cons.mpr ⟨lw_p47, fun _ h => absurd h List.not_mem_nil⟩⟩⟩⟩⟩⟩⟩⟩⟩⟩⟩⟩⟩⟩⟩⟩
def lw_privs : List (MethodName × Nat) := lw_privs_1 ++ (lw_privs_2 ++ (lw_privs_3))
def lw_tbl : List Cond := k2_sels lw_privs ++ tables_1
theorem lw_privs_ok : ∀ q ∈ lw_privs, lw_okq q := by
  show ∀ q ∈ lw_privs_1 ++ (lw_privs_2 ++ (lw_privs_3)), lw_okq q
  exact List.forall_mem_append.mpr ⟨lw_r1, List.forall_mem_append.mpr ⟨lw_r2, lw_r3⟩⟩
def RX0 : String := "OxbowReaches$Bend"
def TX0 : u_T := fun k => match k with
  | 0 => ("OxbowReaches$Bend", "first", "I", false)
  | 1 => ("OxbowReaches$Bend", "last", "I", false)
  | _ => ("OxbowReaches$Bend", "way", "I", false)
def tyX0 : Nat → FieldType := fun k => match k with
  | 0 => .int
  | 1 => .int
  | _ => .int
abbrev wsX00 : List Cond := u_ws RX0 TX0 3
theorem nmX0 : ∀ a, a < 3 → ∀ b, b < 3 → a ≠ b → (TX0 a).2.1 ≠ (TX0 b).2.1 := by decide +kernel
theorem tyX0_ok : ∀ k, k < 3 → parseFieldDescriptor (TX0 k).2.2.1 = some (tyX0 k) := by decide +kernel
abbrev cX0_init : ByteArray := prog_2_method_1_code
def yX0_init : MethodName := ⟨RX0, "<init>", "()V"⟩
abbrev cX0_seekFrom : ByteArray := prog_2_method_2_code
def yX0_seekFrom : MethodName := ⟨RX0, "seekFrom", "(LOxbowReaches$Course;I)Z"⟩
abbrev cX0_seekNumbered : ByteArray := prog_2_method_3_code
def yX0_seekNumbered : MethodName := ⟨RX0, "seekNumbered", "(LOxbowReaches$Course;I)Z"⟩
abbrev cX0_endOfRow : ByteArray := prog_2_method_4_code
def yX0_endOfRow : MethodName := ⟨RX0, "endOfRow", "(LOxbowReaches$Course;II)I"⟩
def RX1 : String := "OxbowReaches$Course"
def TX1 : u_T := fun k => match k with
  | 0 => ("OxbowReaches$Course", "cells", "[I", true)
  | 1 => ("OxbowReaches$Course", "numbers", "[I", true)
  | _ => ("OxbowReaches$Course", "length", "I", false)
def tyX1 : Nat → FieldType := fun k => match k with
  | 0 => .array .int
  | 1 => .array .int
  | _ => .int
abbrev wsX10 : List Cond := u_ws RX1 TX1 3
theorem nmX1 : ∀ a, a < 3 → ∀ b, b < 3 → a ≠ b → (TX1 a).2.1 ≠ (TX1 b).2.1 := by decide +kernel
theorem tyX1_ok : ∀ k, k < 3 → parseFieldDescriptor (TX1 k).2.2.1 = some (tyX1 k) := by decide +kernel
abbrev cX1_init : ByteArray := prog_3_method_1_code
def yX1_init : MethodName := ⟨RX1, "<init>", "()V"⟩
abbrev cX1_clear : ByteArray := prog_3_method_2_code
def yX1_clear : MethodName := ⟨RX1, "clear", "()V"⟩
abbrev cX1_copyFrom : ByteArray := prog_3_method_3_code
def yX1_copyFrom : MethodName := ⟨RX1, "copyFrom", "(LOxbowReaches$Course;)V"⟩
abbrev cX1_length : ByteArray := prog_3_method_4_code
def yX1_length : MethodName := ⟨RX1, "length", "()I"⟩
abbrev cX1_append : ByteArray := prog_3_method_5_code
def yX1_append : MethodName := ⟨RX1, "append", "(I)Z"⟩
abbrev cX1_cellOf : ByteArray := prog_3_method_6_code
def yX1_cellOf : MethodName := ⟨RX1, "cellOf", "(I)I"⟩
abbrev cX1_numberOf : ByteArray := prog_3_method_7_code
def yX1_numberOf : MethodName := ⟨RX1, "numberOf", "(I)I"⟩
abbrev cX1_numberBeside : ByteArray := prog_3_method_8_code
def yX1_numberBeside : MethodName := ⟨RX1, "numberBeside", "(II)I"⟩
abbrev cX1_nextBeside : ByteArray := prog_3_method_9_code
def yX1_nextBeside : MethodName := ⟨RX1, "nextBeside", "(II)I"⟩
abbrev cX1_wayFrom : ByteArray := prog_3_method_10_code
def yX1_wayFrom : MethodName := ⟨RX1, "wayFrom", "(I)I"⟩
abbrev cX1_winding : ByteArray := prog_3_method_11_code
def yX1_winding : MethodName := ⟨RX1, "winding", "()I"⟩
abbrev cX1_bulge : ByteArray := prog_3_method_12_code
def yX1_bulge : MethodName := ⟨RX1, "bulge", "(III)V"⟩
abbrev cX1_shorten : ByteArray := prog_3_method_13_code
def yX1_shorten : MethodName := ⟨RX1, "shorten", "(II)V"⟩
abbrev cX1_leaveBetween : ByteArray := prog_3_method_14_code
def yX1_leaveBetween : MethodName := ⟨RX1, "leaveBetween", "(II)V"⟩
abbrev cX1_numberAgain : ByteArray := prog_3_method_15_code
def yX1_numberAgain : MethodName := ⟨RX1, "numberAgain", "(I)V"⟩
def RX2 : String := "OxbowReaches$History"
def TX2 : u_T := fun k => match k with
  | 0 => ("OxbowReaches$History", "states", "[LOxbowReaches$River;", true)
  | 1 => ("OxbowReaches$History", "start", "I", false)
  | _ => ("OxbowReaches$History", "length", "I", false)
def tyX2 : Nat → FieldType := fun k => match k with
  | 0 => .array (.object "OxbowReaches$River")
  | 1 => .int
  | _ => .int
abbrev wsX20 : List Cond := u_ws RX2 TX2 3
theorem nmX2 : ∀ a, a < 3 → ∀ b, b < 3 → a ≠ b → (TX2 a).2.1 ≠ (TX2 b).2.1 := by decide +kernel
theorem tyX2_ok : ∀ k, k < 3 → parseFieldDescriptor (TX2 k).2.2.1 = some (tyX2 k) := by decide +kernel
abbrev cX2_init : ByteArray := prog_4_method_1_code
def yX2_init : MethodName := ⟨RX2, "<init>", "()V"⟩
abbrev cX2_length : ByteArray := prog_4_method_2_code
def yX2_length : MethodName := ⟨RX2, "length", "()I"⟩
abbrev cX2_remember : ByteArray := prog_4_method_3_code
def yX2_remember : MethodName := ⟨RX2, "remember", "(LOxbowReaches$River;)V"⟩
abbrev cX2_takeBack : ByteArray := prog_4_method_4_code
def yX2_takeBack : MethodName := ⟨RX2, "takeBack", "(LOxbowReaches$River;)Z"⟩
def RX3 : String := "OxbowReaches$Neck"
def TX3 : u_T := fun k => match k with
  | 0 => ("OxbowReaches$Neck", "from", "I", false)
  | _ => ("OxbowReaches$Neck", "to", "I", false)
def tyX3 : Nat → FieldType := fun k => match k with
  | 0 => .int
  | _ => .int
abbrev wsX30 : List Cond := u_ws RX3 TX3 2
theorem nmX3 : ∀ a, a < 2 → ∀ b, b < 2 → a ≠ b → (TX3 a).2.1 ≠ (TX3 b).2.1 := by decide +kernel
theorem tyX3_ok : ∀ k, k < 2 → parseFieldDescriptor (TX3 k).2.2.1 = some (tyX3 k) := by decide +kernel
abbrev cX3_init : ByteArray := prog_5_method_1_code
def yX3_init : MethodName := ⟨RX3, "<init>", "()V"⟩
abbrev cX3_seekNumbered : ByteArray := prog_5_method_2_code
def yX3_seekNumbered : MethodName := ⟨RX3, "seekNumbered", "(LOxbowReaches$Course;I)Z"⟩
abbrev cX3_seekWidest : ByteArray := prog_5_method_3_code
def yX3_seekWidest : MethodName := ⟨RX3, "seekWidest", "(LOxbowReaches$River;I)Z"⟩
def RX4 : String := "OxbowReaches$Oxbows"
def TX4 : u_T := fun k => match k with
  | 0 => ("OxbowReaches$Oxbows", "owners", "[I", true)
  | 1 => ("OxbowReaches$Oxbows", "firstCells", "[I", true)
  | 2 => ("OxbowReaches$Oxbows", "sizes", "[I", true)
  | 3 => ("OxbowReaches$Oxbows", "years", "[I", true)
  | _ => ("OxbowReaches$Oxbows", "length", "I", false)
def tyX4 : Nat → FieldType := fun k => match k with
  | 0 => .array .int
  | 1 => .array .int
  | 2 => .array .int
  | 3 => .array .int
  | _ => .int
abbrev wsX40 : List Cond := u_ws RX4 TX4 5
theorem nmX4 : ∀ a, a < 5 → ∀ b, b < 5 → a ≠ b → (TX4 a).2.1 ≠ (TX4 b).2.1 := by decide +kernel
theorem tyX4_ok : ∀ k, k < 5 → parseFieldDescriptor (TX4 k).2.2.1 = some (tyX4 k) := by decide +kernel
abbrev cX4_init : ByteArray := prog_6_method_1_code
def yX4_init : MethodName := ⟨RX4, "<init>", "()V"⟩
abbrev cX4_clear : ByteArray := prog_6_method_2_code
def yX4_clear : MethodName := ⟨RX4, "clear", "()V"⟩
abbrev cX4_copyFrom : ByteArray := prog_6_method_3_code
def yX4_copyFrom : MethodName := ⟨RX4, "copyFrom", "(LOxbowReaches$Oxbows;)V"⟩
abbrev cX4_length : ByteArray := prog_6_method_4_code
def yX4_length : MethodName := ⟨RX4, "length", "()I"⟩
abbrev cX4_has : ByteArray := prog_6_method_5_code
def yX4_has : MethodName := ⟨RX4, "has", "(I)Z"⟩
abbrev cX4_ownerOf : ByteArray := prog_6_method_6_code
def yX4_ownerOf : MethodName := ⟨RX4, "ownerOf", "(I)I"⟩
abbrev cX4_sizeOf : ByteArray := prog_6_method_7_code
def yX4_sizeOf : MethodName := ⟨RX4, "sizeOf", "(I)I"⟩
abbrev cX4_yearsOf : ByteArray := prog_6_method_8_code
def yX4_yearsOf : MethodName := ⟨RX4, "yearsOf", "(I)I"⟩
abbrev cX4_firstCellOf : ByteArray := prog_6_method_9_code
def yX4_firstCellOf : MethodName := ⟨RX4, "firstCellOf", "(I)I"⟩
abbrev cX4_take : ByteArray := prog_6_method_10_code
def yX4_take : MethodName := ⟨RX4, "take", "(LOxbowReaches$Course;II)V"⟩
abbrev cX4_drop : ByteArray := prog_6_method_11_code
def yX4_drop : MethodName := ⟨RX4, "drop", "(I)V"⟩
abbrev cX4_passYear : ByteArray := prog_6_method_12_code
def yX4_passYear : MethodName := ⟨RX4, "passYear", "(I)V"⟩
def RX5 : String := "OxbowReaches$Pad"
def TX5 : u_T := fun k => match k with
  | 0 => ("OxbowReaches$Pad", "signs", "[I", true)
  | 1 => ("OxbowReaches$Pad", "ways", "[I", true)
  | 2 => ("OxbowReaches$Pad", "length", "I", false)
  | 3 => ("OxbowReaches$Pad", "at", "I", false)
  | 4 => ("OxbowReaches$Pad", "startX", "I", false)
  | 5 => ("OxbowReaches$Pad", "startY", "I", false)
  | _ => ("OxbowReaches$Pad", "stepCount", "I", false)
def tyX5 : Nat → FieldType := fun k => match k with
  | 0 => .array .int
  | 1 => .array .int
  | 2 => .int
  | 3 => .int
  | 4 => .int
  | 5 => .int
  | _ => .int
abbrev wsX50 : List Cond := u_ws RX5 TX5 7
theorem nmX5 : ∀ a, a < 7 → ∀ b, b < 7 → a ≠ b → (TX5 a).2.1 ≠ (TX5 b).2.1 := by decide +kernel
theorem tyX5_ok : ∀ k, k < 7 → parseFieldDescriptor (TX5 k).2.2.1 = some (tyX5 k) := by decide +kernel
abbrev cX5_init : ByteArray := prog_7_method_1_code
def yX5_init : MethodName := ⟨RX5, "<init>", "()V"⟩
abbrev cX5_length : ByteArray := prog_7_method_2_code
def yX5_length : MethodName := ⟨RX5, "length", "()I"⟩
abbrev cX5_stepCount : ByteArray := prog_7_method_3_code
def yX5_stepCount : MethodName := ⟨RX5, "stepCount", "()I"⟩
abbrev cX5_clear : ByteArray := prog_7_method_4_code
def yX5_clear : MethodName := ⟨RX5, "clear", "()V"⟩
abbrev cX5_sizeOf : ByteArray := prog_7_method_5_code
def yX5_sizeOf : MethodName := ⟨RX5, "sizeOf", "(J)I"⟩
abbrev cX5_hasRoomFor : ByteArray := prog_7_method_6_code
def yX5_hasRoomFor : MethodName := ⟨RX5, "hasRoomFor", "(I)Z"⟩
abbrev cX5_append : ByteArray := prog_7_method_7_code
def yX5_append : MethodName := ⟨RX5, "append", "(JI)V"⟩
abbrev cX5_scan : ByteArray := prog_7_method_8_code
def yX5_scan : MethodName := ⟨RX5, "scan", "()I"⟩
abbrev cX5_scanNumber : ByteArray := prog_7_method_9_code
def yX5_scanNumber : MethodName := ⟨RX5, "scanNumber", "(IC)I"⟩
abbrev cX5_scanSteps : ByteArray := prog_7_method_10_code
def yX5_scanSteps : MethodName := ⟨RX5, "scanSteps", "()Z"⟩
abbrev cX5_addSteps : ByteArray := prog_7_method_11_code
def yX5_addSteps : MethodName := ⟨RX5, "addSteps", "(II)V"⟩
abbrev cX5_signAt : ByteArray := prog_7_method_12_code
def yX5_signAt : MethodName := ⟨RX5, "signAt", "(I)I"⟩
abbrev cX5_digitAt : ByteArray := prog_7_method_13_code
def yX5_digitAt : MethodName := ⟨RX5, "digitAt", "(I)I"⟩
abbrev cX5_wayAt : ByteArray := prog_7_method_14_code
def yX5_wayAt : MethodName := ⟨RX5, "wayAt", "(I)I"⟩
abbrev cX5_layCourse : ByteArray := prog_7_method_15_code
def yX5_layCourse : MethodName := ⟨RX5, "layCourse", "(LOxbowReaches$Course;)Z"⟩
def RX6 : String := "OxbowReaches$Passing"
def TX6 : u_T := fun k => match k with
  | 0 => ("OxbowReaches$Passing", "bend", "LOxbowReaches$Bend;", true)
  | 1 => ("OxbowReaches$Passing", "neck", "LOxbowReaches$Neck;", true)
  | 2 => ("OxbowReaches$Passing", "watchedCell", "I", false)
  | 3 => ("OxbowReaches$Passing", "isWatchedTaken", "Z", false)
  | _ => ("OxbowReaches$Passing", "cellsCutOff", "I", false)
def tyX6 : Nat → FieldType := fun k => match k with
  | 0 => .object "OxbowReaches$Bend"
  | 1 => .object "OxbowReaches$Neck"
  | 2 => .int
  | 3 => .boolean
  | _ => .int
abbrev wsX60 : List Cond := u_ws RX6 TX6 5
theorem nmX6 : ∀ a, a < 5 → ∀ b, b < 5 → a ≠ b → (TX6 a).2.1 ≠ (TX6 b).2.1 := by decide +kernel
theorem tyX6_ok : ∀ k, k < 5 → parseFieldDescriptor (TX6 k).2.2.1 = some (tyX6 k) := by decide +kernel
abbrev cX6_init : ByteArray := prog_8_method_1_code
def yX6_init : MethodName := ⟨RX6, "<init>", "()V"⟩
abbrev cX6_watch : ByteArray := prog_8_method_2_code
def yX6_watch : MethodName := ⟨RX6, "watch", "(I)V"⟩
abbrev cX6_passYear : ByteArray := prog_8_method_3_code
def yX6_passYear : MethodName := ⟨RX6, "passYear", "(LOxbowReaches$River;)V"⟩
abbrev cX6_wearBanks : ByteArray := prog_8_method_4_code
def yX6_wearBanks : MethodName := ⟨RX6, "wearBanks", "(LOxbowReaches$River;Z)V"⟩
abbrev cX6_growBends : ByteArray := prog_8_method_5_code
def yX6_growBends : MethodName := ⟨RX6, "growBends", "(LOxbowReaches$River;)V"⟩
abbrev cX6_noteTaken : ByteArray := prog_8_method_6_code
def yX6_noteTaken : MethodName := ⟨RX6, "noteTaken", "(LOxbowReaches$River;)V"⟩
abbrev cX6_cutNecks : ByteArray := prog_8_method_7_code
def yX6_cutNecks : MethodName := ⟨RX6, "cutNecks", "(LOxbowReaches$River;Z)V"⟩
def RX7 : String := "OxbowReaches$River"
def TX7 : u_T := fun k => match k with
  | 0 => ("OxbowReaches$River", "settings", "[I", true)
  | 1 => ("OxbowReaches$River", "course", "LOxbowReaches$Course;", true)
  | 2 => ("OxbowReaches$River", "oxbows", "LOxbowReaches$Oxbows;", true)
  | 3 => ("OxbowReaches$River", "wear", "[I", true)
  | 4 => ("OxbowReaches$River", "dikes", "[I", true)
  | 5 => ("OxbowReaches$River", "ages", "[I", true)
  | 6 => ("OxbowReaches$River", "floods", "[I", true)
  | 7 => ("OxbowReaches$River", "floodCount", "I", false)
  | 8 => ("OxbowReaches$River", "year", "I", false)
  | 9 => ("OxbowReaches$River", "cutCount", "I", false)
  | _ => ("OxbowReaches$River", "growthCount", "I", false)
def tyX7 : Nat → FieldType := fun k => match k with
  | 0 => .array .int
  | 1 => .object "OxbowReaches$Course"
  | 2 => .object "OxbowReaches$Oxbows"
  | 3 => .array .int
  | 4 => .array .int
  | 5 => .array .int
  | 6 => .array .int
  | 7 => .int
  | 8 => .int
  | 9 => .int
  | _ => .int
abbrev wsX70 : List Cond := u_ws RX7 TX7 11
theorem nmX7 : ∀ a, a < 11 → ∀ b, b < 11 → a ≠ b → (TX7 a).2.1 ≠ (TX7 b).2.1 := by decide +kernel
theorem tyX7_ok : ∀ k, k < 11 → parseFieldDescriptor (TX7 k).2.2.1 = some (tyX7 k) := by decide +kernel
abbrev cX7_init : ByteArray := prog_9_method_1_code
def yX7_init : MethodName := ⟨RX7, "<init>", "()V"⟩
abbrev cX7_copyFrom : ByteArray := prog_9_method_2_code
def yX7_copyFrom : MethodName := ⟨RX7, "copyFrom", "(LOxbowReaches$River;)V"⟩
abbrev cX7_clearAllButSettings : ByteArray := prog_9_method_3_code
def yX7_clearAllButSettings : MethodName := ⟨RX7, "clearAllButSettings", "()V"⟩
abbrev cX7_setting : ByteArray := prog_9_method_4_code
def yX7_setting : MethodName := ⟨RX7, "setting", "(I)I"⟩
abbrev cX7_changeSetting : ByteArray := prog_9_method_5_code
def yX7_changeSetting : MethodName := ⟨RX7, "changeSetting", "(II)V"⟩
abbrev cX7_isDike : ByteArray := prog_9_method_6_code
def yX7_isDike : MethodName := ⟨RX7, "isDike", "(I)Z"⟩
abbrev cX7_changeDike : ByteArray := prog_9_method_7_code
def yX7_changeDike : MethodName := ⟨RX7, "changeDike", "(IZ)V"⟩
abbrev cX7_dikeCount : ByteArray := prog_9_method_8_code
def yX7_dikeCount : MethodName := ⟨RX7, "dikeCount", "()I"⟩
abbrev cX7_hasFlood : ByteArray := prog_9_method_9_code
def yX7_hasFlood : MethodName := ⟨RX7, "hasFlood", "(I)Z"⟩
abbrev cX7_changeFlood : ByteArray := prog_9_method_10_code
def yX7_changeFlood : MethodName := ⟨RX7, "changeFlood", "(IZ)V"⟩
abbrev cX7_addFlood : ByteArray := prog_9_method_11_code
def yX7_addFlood : MethodName := ⟨RX7, "addFlood", "(I)V"⟩
abbrev cX7_removeFlood : ByteArray := prog_9_method_12_code
def yX7_removeFlood : MethodName := ⟨RX7, "removeFlood", "(I)V"⟩
abbrev cX7_wearOf : ByteArray := prog_9_method_13_code
def yX7_wearOf : MethodName := ⟨RX7, "wearOf", "(I)I"⟩
abbrev cX7_wearSum : ByteArray := prog_9_method_14_code
def yX7_wearSum : MethodName := ⟨RX7, "wearSum", "()I"⟩
abbrev cX7_bankCell : ByteArray := prog_9_method_15_code
def yX7_bankCell : MethodName := ⟨RX7, "bankCell", "(LOxbowReaches$Bend;I)I"⟩
abbrev cX7_isFirm : ByteArray := prog_9_method_16_code
def yX7_isFirm : MethodName := ⟨RX7, "isFirm", "(LOxbowReaches$Bend;)Z"⟩
abbrev cX7_leastWear : ByteArray := prog_9_method_17_code
def yX7_leastWear : MethodName := ⟨RX7, "leastWear", "(LOxbowReaches$Bend;)I"⟩
abbrev cX7_canGrow : ByteArray := prog_9_method_18_code
def yX7_canGrow : MethodName := ⟨RX7, "canGrow", "(LOxbowReaches$Bend;)Z"⟩
abbrev cX7_wearBank : ByteArray := prog_9_method_19_code
def yX7_wearBank : MethodName := ⟨RX7, "wearBank", "(LOxbowReaches$Bend;I)V"⟩
abbrev cX7_growBend : ByteArray := prog_9_method_20_code
def yX7_growBend : MethodName := ⟨RX7, "growBend", "(LOxbowReaches$Bend;)V"⟩
abbrev cX7_ageOf : ByteArray := prog_9_method_21_code
def yX7_ageOf : MethodName := ⟨RX7, "ageOf", "(II)I"⟩
abbrev cX7_agePairs : ByteArray := prog_9_method_22_code
def yX7_agePairs : MethodName := ⟨RX7, "agePairs", "()V"⟩
abbrev cX7_agePair : ByteArray := prog_9_method_23_code
def yX7_agePair : MethodName := ⟨RX7, "agePair", "(II)V"⟩
abbrev cX7_pairOf : ByteArray := prog_9_method_24_code
def yX7_pairOf : MethodName := ⟨RX7, "pairOf", "(II)I"⟩
abbrev cX7_cutBetween : ByteArray := prog_9_method_25_code
def yX7_cutBetween : MethodName := ⟨RX7, "cutBetween", "(II)V"⟩
def RX8 : String := "OxbowReaches"
def TX8 : u_T := fun k => match k with
  | 0 => ("OxbowReaches", "river", "LOxbowReaches$River;", true)
  | 1 => ("OxbowReaches", "trial", "LOxbowReaches$River;", true)
  | 2 => ("OxbowReaches", "slots", "[LOxbowReaches$River;", true)
  | 3 => ("OxbowReaches", "isSaved", "[Z", true)
  | 4 => ("OxbowReaches", "history", "LOxbowReaches$History;", true)
  | 5 => ("OxbowReaches", "pad", "LOxbowReaches$Pad;", true)
  | 6 => ("OxbowReaches", "passing", "LOxbowReaches$Passing;", true)
  | 7 => ("OxbowReaches", "foundBend", "LOxbowReaches$Bend;", true)
  | _ => ("OxbowReaches", "foundNeck", "LOxbowReaches$Neck;", true)
def tyX8 : Nat → FieldType := fun k => match k with
  | 0 => .object "OxbowReaches$River"
  | 1 => .object "OxbowReaches$River"
  | 2 => .array (.object "OxbowReaches$River")
  | 3 => .array .boolean
  | 4 => .object "OxbowReaches$History"
  | 5 => .object "OxbowReaches$Pad"
  | 6 => .object "OxbowReaches$Passing"
  | 7 => .object "OxbowReaches$Bend"
  | _ => .object "OxbowReaches$Neck"
abbrev wsX80 : List Cond := u_ws RX8 TX8 9
theorem nmX8 : ∀ a, a < 9 → ∀ b, b < 9 → a ≠ b → (TX8 a).2.1 ≠ (TX8 b).2.1 := by decide +kernel
theorem tyX8_ok : ∀ k, k < 9 → parseFieldDescriptor (TX8 k).2.2.1 = some (tyX8 k) := by decide +kernel
abbrev cX8_init : ByteArray := prog_1_method_1_code
def yX8_init : MethodName := ⟨RX8, "<init>", "()V"⟩
abbrev cX8_set : ByteArray := prog_1_method_2_code
def yX8_set : MethodName := ⟨RX8, "set", "(II)I"⟩
abbrev cX8_read : ByteArray := prog_1_method_3_code
def yX8_read : MethodName := ⟨RX8, "read", "()I"⟩
abbrev cX8_dike : ByteArray := prog_1_method_4_code
def yX8_dike : MethodName := ⟨RX8, "dike", "(IIZ)I"⟩
abbrev cX8_flood : ByteArray := prog_1_method_5_code
def yX8_flood : MethodName := ⟨RX8, "flood", "(IZ)I"⟩
abbrev cX8_cut : ByteArray := prog_1_method_6_code
def yX8_cut : MethodName := ⟨RX8, "cut", "(I)I"⟩
abbrev cX8_pass : ByteArray := prog_1_method_7_code
def yX8_pass : MethodName := ⟨RX8, "pass", "(I)I"⟩
abbrev cX8_cell : ByteArray := prog_1_method_8_code
def yX8_cell : MethodName := ⟨RX8, "cell", "(III)I"⟩
abbrev cX8_course : ByteArray := prog_1_method_9_code
def yX8_course : MethodName := ⟨RX8, "course", "(II)I"⟩
abbrev cX8_bend : ByteArray := prog_1_method_10_code
def yX8_bend : MethodName := ⟨RX8, "bend", "(II)I"⟩
abbrev cX8_neck : ByteArray := prog_1_method_11_code
def yX8_neck : MethodName := ⟨RX8, "neck", "(II)I"⟩
abbrev cX8_oxbow : ByteArray := prog_1_method_12_code
def yX8_oxbow : MethodName := ⟨RX8, "oxbow", "(II)I"⟩
abbrev cX8_count : ByteArray := prog_1_method_13_code
def yX8_count : MethodName := ⟨RX8, "count", "(I)I"⟩
abbrev cX8_isFlood : ByteArray := prog_1_method_14_code
def yX8_isFlood : MethodName := ⟨RX8, "isFlood", "(I)I"⟩
abbrev cX8_ifPassed : ByteArray := prog_1_method_15_code
def yX8_ifPassed : MethodName := ⟨RX8, "ifPassed", "(II)I"⟩
abbrev cX8_nextCut : ByteArray := prog_1_method_16_code
def yX8_nextCut : MethodName := ⟨RX8, "nextCut", "(I)I"⟩
abbrev cX8_taken : ByteArray := prog_1_method_17_code
def yX8_taken : MethodName := ⟨RX8, "taken", "(II)I"⟩
abbrev cX8_put : ByteArray := prog_1_method_18_code
def yX8_put : MethodName := ⟨RX8, "put", "(J)I"⟩
abbrev cX8_wipe : ByteArray := prog_1_method_19_code
def yX8_wipe : MethodName := ⟨RX8, "wipe", "()I"⟩
abbrev cX8_fault : ByteArray := prog_1_method_20_code
def yX8_fault : MethodName := ⟨RX8, "fault", "()I"⟩
abbrev cX8_undo : ByteArray := prog_1_method_21_code
def yX8_undo : MethodName := ⟨RX8, "undo", "()I"⟩
abbrev cX8_save : ByteArray := prog_1_method_22_code
def yX8_save : MethodName := ⟨RX8, "save", "(I)I"⟩
abbrev cX8_restore : ByteArray := prog_1_method_23_code
def yX8_restore : MethodName := ⟨RX8, "restore", "(I)I"⟩
abbrev cX8_countBends : ByteArray := prog_1_method_24_code
def yX8_countBends : MethodName := ⟨RX8, "countBends", "(Z)I"⟩
abbrev cX8_countNecks : ByteArray := prog_1_method_25_code
def yX8_countNecks : MethodName := ⟨RX8, "countNecks", "()I"⟩
abbrev cX8_orNone : ByteArray := prog_1_method_26_code
def yX8_orNone : MethodName := ⟨RX8, "orNone", "(I)I"⟩
abbrev cX8_asNumber : ByteArray := prog_1_method_27_code
def yX8_asNumber : MethodName := ⟨RX8, "asNumber", "(Z)I"⟩
abbrev cX8_cellAt : ByteArray := prog_1_method_28_code
def yX8_cellAt : MethodName := ⟨RX8, "cellAt", "(II)I"⟩
abbrev cX8_isOnLand : ByteArray := prog_1_method_29_code
def yX8_isOnLand : MethodName := ⟨RX8, "isOnLand", "(I)Z"⟩
abbrev cX8_beside : ByteArray := prog_1_method_30_code
def yX8_beside : MethodName := ⟨RX8, "beside", "(II)I"⟩
abbrev cX8_areOpposite : ByteArray := prog_1_method_31_code
def yX8_areOpposite : MethodName := ⟨RX8, "areOpposite", "(II)Z"⟩
def RX9 : String := "OxbowReachesModel"
def TX9 : u_T := fun k => match k with
  | 0 => ("OxbowReachesModel", "s", "[I", true)
  | 1 => ("OxbowReachesModel", "aside", "[I", true)
  | 2 => ("OxbowReachesModel", "before", "[I", true)
  | 3 => ("OxbowReachesModel", "known", "I", false)
  | 4 => ("OxbowReachesModel", "slots", "[I", true)
  | 5 => ("OxbowReachesModel", "isSaved", "[Z", true)
  | 6 => ("OxbowReachesModel", "pad", "[I", true)
  | 7 => ("OxbowReachesModel", "length", "I", false)
  | 8 => ("OxbowReachesModel", "firsts", "[I", true)
  | 9 => ("OxbowReachesModel", "lasts", "[I", true)
  | 10 => ("OxbowReachesModel", "isOn", "[Z", true)
  | 11 => ("OxbowReachesModel", "bends", "I", false)
  | 12 => ("OxbowReachesModel", "row", "[I", true)
  | 13 => ("OxbowReachesModel", "takenCell", "I", false)
  | 14 => ("OxbowReachesModel", "isTaken", "Z", false)
  | 15 => ("OxbowReachesModel", "neckI", "I", false)
  | 16 => ("OxbowReachesModel", "neckJ", "I", false)
  | 17 => ("OxbowReachesModel", "necks", "I", false)
  | 18 => ("OxbowReachesModel", "isNeck", "[Z", true)
  | 19 => ("OxbowReachesModel", "place", "I", false)
  | 20 => ("OxbowReachesModel", "isWrong", "Z", false)
  | 21 => ("OxbowReachesModel", "told", "[I", true)
  | 22 => ("OxbowReachesModel", "toldMany", "I", false)
  | _ => ("OxbowReachesModel", "isOff", "Z", false)
def tyX9 : Nat → FieldType := fun k => match k with
  | 0 => .array .int
  | 1 => .array .int
  | 2 => .array .int
  | 3 => .int
  | 4 => .array .int
  | 5 => .array .boolean
  | 6 => .array .int
  | 7 => .int
  | 8 => .array .int
  | 9 => .array .int
  | 10 => .array .boolean
  | 11 => .int
  | 12 => .array .int
  | 13 => .int
  | 14 => .boolean
  | 15 => .int
  | 16 => .int
  | 17 => .int
  | 18 => .array .boolean
  | 19 => .int
  | 20 => .boolean
  | 21 => .array .int
  | 22 => .int
  | _ => .boolean
abbrev wsX90 : List Cond := u_ws RX9 TX9 24
theorem nmX9 : ∀ a, a < 24 → ∀ b, b < 24 → a ≠ b → (TX9 a).2.1 ≠ (TX9 b).2.1 := by decide +kernel
theorem tyX9_ok : ∀ k, k < 24 → parseFieldDescriptor (TX9 k).2.2.1 = some (tyX9 k) := by decide +kernel
abbrev cX9_init : ByteArray := prog_11_method_1_code
def yX9_init : MethodName := ⟨RX9, "<init>", "()V"⟩
abbrev cX9_begin : ByteArray := prog_11_method_2_code
def yX9_begin : MethodName := ⟨RX9, "begin", "()V"⟩
abbrev cX9_in : ByteArray := prog_11_method_4_code
def yX9_in : MethodName := ⟨RX9, "in", "(III)Z"⟩
abbrev cX9_isCell : ByteArray := prog_11_method_5_code
def yX9_isCell : MethodName := ⟨RX9, "isCell", "(II)Z"⟩
abbrev cX9_know : ByteArray := prog_11_method_6_code
def yX9_know : MethodName := ⟨RX9, "know", "()V"⟩
abbrev cX9_putAside : ByteArray := prog_11_method_7_code
def yX9_putAside : MethodName := ⟨RX9, "putAside", "()V"⟩
abbrev cX9_putBack : ByteArray := prog_11_method_8_code
def yX9_putBack : MethodName := ⟨RX9, "putBack", "()V"⟩
abbrev cX9_stepped : ByteArray := prog_11_method_9_code
def yX9_stepped : MethodName := ⟨RX9, "stepped", "(II)I"⟩
abbrev cX9_way : ByteArray := prog_11_method_10_code
def yX9_way : MethodName := ⟨RX9, "way", "(I)I"⟩
abbrev cX9_numberOf : ByteArray := prog_11_method_11_code
def yX9_numberOf : MethodName := ⟨RX9, "numberOf", "(I)I"⟩
abbrev cX9_findBends : ByteArray := prog_11_method_12_code
def yX9_findBends : MethodName := ⟨RX9, "findBends", "()V"⟩
abbrev cX9_wayOf : ByteArray := prog_11_method_13_code
def yX9_wayOf : MethodName := ⟨RX9, "wayOf", "(I)I"⟩
abbrev cX9_bank : ByteArray := prog_11_method_14_code
def yX9_bank : MethodName := ⟨RX9, "bank", "(II)I"⟩
abbrev cX9_isFirm : ByteArray := prog_11_method_15_code
def yX9_isFirm : MethodName := ⟨RX9, "isFirm", "(I)Z"⟩
abbrev cX9_leastWear : ByteArray := prog_11_method_16_code
def yX9_leastWear : MethodName := ⟨RX9, "leastWear", "(I)I"⟩
abbrev cX9_canGrow : ByteArray := prog_11_method_17_code
def yX9_canGrow : MethodName := ⟨RX9, "canGrow", "(I)Z"⟩
abbrev cX9_dropOxbow : ByteArray := prog_11_method_18_code
def yX9_dropOxbow : MethodName := ⟨RX9, "dropOxbow", "(I)V"⟩
abbrev cX9_grow : ByteArray := prog_11_method_19_code
def yX9_grow : MethodName := ⟨RX9, "grow", "(I)I"⟩
abbrev cX9_pair : ByteArray := prog_11_method_20_code
def yX9_pair : MethodName := ⟨RX9, "pair", "(II)I"⟩
abbrev cX9_areNeighbours : ByteArray := prog_11_method_21_code
def yX9_areNeighbours : MethodName := ⟨RX9, "areNeighbours", "(II)Z"⟩
abbrev cX9_findNeck : ByteArray := prog_11_method_22_code
def yX9_findNeck : MethodName := ⟨RX9, "findNeck", "(II)Z"⟩
abbrev cX9_cutNeck : ByteArray := prog_11_method_23_code
def yX9_cutNeck : MethodName := ⟨RX9, "cutNeck", "()V"⟩
abbrev cX9_isFloodYear : ByteArray := prog_11_method_24_code
def yX9_isFloodYear : MethodName := ⟨RX9, "isFloodYear", "(I)Z"⟩
abbrev cX9_wear : ByteArray := prog_11_method_25_code
def yX9_wear : MethodName := ⟨RX9, "wear", "()V"⟩
abbrev cX9_growAll : ByteArray := prog_11_method_26_code
def yX9_growAll : MethodName := ⟨RX9, "growAll", "()V"⟩
abbrev cX9_age : ByteArray := prog_11_method_27_code
def yX9_age : MethodName := ⟨RX9, "age", "()V"⟩
abbrev cX9_goOn : ByteArray := prog_11_method_28_code
def yX9_goOn : MethodName := ⟨RX9, "goOn", "()I"⟩
abbrev cX9_set : ByteArray := prog_11_method_29_code
def yX9_set : MethodName := ⟨RX9, "set", "(II)I"⟩
abbrev cX9_dikes : ByteArray := prog_11_method_30_code
def yX9_dikes : MethodName := ⟨RX9, "dikes", "()I"⟩
abbrev cX9_dike : ByteArray := prog_11_method_31_code
def yX9_dike : MethodName := ⟨RX9, "dike", "(IIZ)I"⟩
abbrev cX9_flood : ByteArray := prog_11_method_32_code
def yX9_flood : MethodName := ⟨RX9, "flood", "(IZ)I"⟩
abbrev cX9_cut : ByteArray := prog_11_method_33_code
def yX9_cut : MethodName := ⟨RX9, "cut", "(I)I"⟩
abbrev cX9_pass : ByteArray := prog_11_method_34_code
def yX9_pass : MethodName := ⟨RX9, "pass", "(I)I"⟩
abbrev cX9_cell : ByteArray := prog_11_method_35_code
def yX9_cell : MethodName := ⟨RX9, "cell", "(III)I"⟩
abbrev cX9_course : ByteArray := prog_11_method_36_code
def yX9_course : MethodName := ⟨RX9, "course", "(II)I"⟩
abbrev cX9_bend : ByteArray := prog_11_method_37_code
def yX9_bend : MethodName := ⟨RX9, "bend", "(II)I"⟩
abbrev cX9_neck : ByteArray := prog_11_method_38_code
def yX9_neck : MethodName := ⟨RX9, "neck", "(II)I"⟩
abbrev cX9_oxbow : ByteArray := prog_11_method_39_code
def yX9_oxbow : MethodName := ⟨RX9, "oxbow", "(II)I"⟩
abbrev cX9_firm : ByteArray := prog_11_method_40_code
def yX9_firm : MethodName := ⟨RX9, "firm", "()I"⟩
abbrev cX9_apart : ByteArray := prog_11_method_41_code
def yX9_apart : MethodName := ⟨RX9, "apart", "(II)I"⟩
abbrev cX9_winding : ByteArray := prog_11_method_42_code
def yX9_winding : MethodName := ⟨RX9, "winding", "()I"⟩
abbrev cX9_allWear : ByteArray := prog_11_method_43_code
def yX9_allWear : MethodName := ⟨RX9, "allWear", "()I"⟩
abbrev cX9_allNecks : ByteArray := prog_11_method_44_code
def yX9_allNecks : MethodName := ⟨RX9, "allNecks", "()I"⟩
abbrev cX9_count : ByteArray := prog_11_method_45_code
def yX9_count : MethodName := ⟨RX9, "count", "(I)I"⟩
abbrev cX9_isFlood : ByteArray := prog_11_method_46_code
def yX9_isFlood : MethodName := ⟨RX9, "isFlood", "(I)I"⟩
abbrev cX9_ifPassed : ByteArray := prog_11_method_47_code
def yX9_ifPassed : MethodName := ⟨RX9, "ifPassed", "(II)I"⟩
abbrev cX9_nextCut : ByteArray := prog_11_method_48_code
def yX9_nextCut : MethodName := ⟨RX9, "nextCut", "(I)I"⟩
abbrev cX9_taken : ByteArray := prog_11_method_49_code
def yX9_taken : MethodName := ⟨RX9, "taken", "(II)I"⟩
abbrev cX9_put : ByteArray := prog_11_method_50_code
def yX9_put : MethodName := ⟨RX9, "put", "(J)I"⟩
abbrev cX9_wipe : ByteArray := prog_11_method_51_code
def yX9_wipe : MethodName := ⟨RX9, "wipe", "()I"⟩
abbrev cX9_sign : ByteArray := prog_11_method_52_code
def yX9_sign : MethodName := ⟨RX9, "sign", "(II)I"⟩
abbrev cX9_isNext : ByteArray := prog_11_method_53_code
def yX9_isNext : MethodName := ⟨RX9, "isNext", "(II)Z"⟩
abbrev cX9_number : ByteArray := prog_11_method_54_code
def yX9_number : MethodName := ⟨RX9, "number", "(I)I"⟩
abbrev cX9_tell : ByteArray := prog_11_method_55_code
def yX9_tell : MethodName := ⟨RX9, "tell", "(I)V"⟩
abbrev cX9_readPad : ByteArray := prog_11_method_56_code
def yX9_readPad : MethodName := ⟨RX9, "readPad", "()V"⟩
abbrev cX9_fault : ByteArray := prog_11_method_57_code
def yX9_fault : MethodName := ⟨RX9, "fault", "()I"⟩
abbrev cX9_read : ByteArray := prog_11_method_58_code
def yX9_read : MethodName := ⟨RX9, "read", "()I"⟩
abbrev cX9_undo : ByteArray := prog_11_method_59_code
def yX9_undo : MethodName := ⟨RX9, "undo", "()I"⟩
abbrev cX9_save : ByteArray := prog_11_method_60_code
def yX9_save : MethodName := ⟨RX9, "save", "(I)I"⟩
abbrev cX9_restore : ByteArray := prog_11_method_61_code
def yX9_restore : MethodName := ⟨RX9, "restore", "(I)I"⟩
def RJ9 : String := "java/lang/Math"
def TJ9 : u_T := fun k => match k with
  | _ => ("", "", "", false)
def tyJ9 : Nat → FieldType := fun k => match k with
  | _ => .int
abbrev wsJ90 : List Cond := u_ws RJ9 TJ9 0
theorem nmJ9 : ∀ a, a < 0 → ∀ b, b < 0 → a ≠ b → (TJ9 a).2.1 ≠ (TJ9 b).2.1 := by decide +kernel
theorem tyJ9_ok : ∀ k, k < 0 → parseFieldDescriptor (TJ9 k).2.2.1 = some (tyJ9 k) := by decide +kernel
abbrev cJ9_abs_0f7a4 : ByteArray := prog_12_method_59_code
def yJ9_abs_0f7a4 : MethodName := ⟨RJ9, "abs", "(I)I"⟩
abbrev cJ9_max_7cf53 : ByteArray := prog_12_method_65_code
def yJ9_max_7cf53 : MethodName := ⟨RJ9, "max", "(II)I"⟩
abbrev cJ9_min_7cf53 : ByteArray := prog_12_method_69_code
def yJ9_min_7cf53 : MethodName := ⟨RJ9, "min", "(II)I"⟩
def RJ10 : String := "java/lang/System"
def TJ10 : u_T := fun k => match k with
  | _ => ("", "", "", false)
def tyJ10 : Nat → FieldType := fun k => match k with
  | _ => .int
abbrev wsJ100 : List Cond := u_ws RJ10 TJ10 0
theorem nmJ10 : ∀ a, a < 0 → ∀ b, b < 0 → a ≠ b → (TJ10 a).2.1 ≠ (TJ10 b).2.1 := by decide +kernel
theorem tyJ10_ok : ∀ k, k < 0 → parseFieldDescriptor (TJ10 k).2.2.1 = some (tyJ10 k) := by decide +kernel
def RJ7 : String := "java/util/Arrays"
def TJ7 : u_T := fun k => match k with
  | _ => ("", "", "", false)
def tyJ7 : Nat → FieldType := fun k => match k with
  | _ => .int
abbrev wsJ70 : List Cond := u_ws RJ7 TJ7 0
theorem nmJ7 : ∀ a, a < 0 → ∀ b, b < 0 → a ≠ b → (TJ7 a).2.1 ≠ (TJ7 b).2.1 := by decide +kernel
theorem tyJ7_ok : ∀ k, k < 0 → parseFieldDescriptor (TJ7 k).2.2.1 = some (tyJ7 k) := by decide +kernel
abbrev cJ7_fill_53178 : ByteArray := prog_14_method_103_code
def yJ7_fill_53178 : MethodName := ⟨RJ7, "fill", "([II)V"⟩
def RL : String := "OxbowReachesLaw"
abbrev cL_law : ByteArray := code
def yL_law : MethodName := ⟨RL, "law", "([I)Z"⟩
