section
-- ===== PART A: goes FIRST, ahead of the names: the tables' words, and 'selects' of the private methods out of them =====
/-- a private method of a class that the tables say can be made, by its rows of tables_1 -/
def lw_okq (q : MethodName × Nat) : Prop := (q.1.cls ≠ "java/lang/invoke/MethodHandle" ∧ q.1.cls ≠ "java/lang/invoke/VarHandle") ∧ Cond.instantiable q.1.cls q.2 ∈ tables_1 ∧ Cond.privateMethod q.1 ∈ tables_1 ∧ Cond.instanceMethod q.1 ∈ tables_1
theorem lw_p0 : lw_okq (⟨"HangerRail", "told", "(I)I"⟩, 9) := ⟨⟨by decide +kernel, by decide +kernel⟩, List.mem_of_getElem? (i := 16) (by decide +kernel), List.mem_of_getElem? (i := 189) (by decide +kernel), List.mem_of_getElem? (i := 190) (by decide +kernel)⟩
theorem lw_p1 : lw_okq (⟨"HangerRail", "findingAgainstTaking", "(II)I"⟩, 9) := ⟨⟨by decide +kernel, by decide +kernel⟩, List.mem_of_getElem? (i := 16) (by decide +kernel), List.mem_of_getElem? (i := 299) (by decide +kernel), List.mem_of_getElem? (i := 300) (by decide +kernel)⟩
theorem lw_p2 : lw_okq (⟨"HangerRail$Tangle", "nearFacing", "(II)I"⟩, 3) := ⟨⟨by decide +kernel, by decide +kernel⟩, List.mem_of_getElem? (i := 76) (by decide +kernel), List.mem_of_getElem? (i := 327) (by decide +kernel), List.mem_of_getElem? (i := 328) (by decide +kernel)⟩
theorem lw_p3 : lw_okq (⟨"HangerRail", "howManyFall", "(II)I"⟩, 9) := ⟨⟨by decide +kernel, by decide +kernel⟩, List.mem_of_getElem? (i := 16) (by decide +kernel), List.mem_of_getElem? (i := 397) (by decide +kernel), List.mem_of_getElem? (i := 398) (by decide +kernel)⟩
theorem lw_p4 : lw_okq (⟨"HangerRail", "harm", "(II)I"⟩, 9) := ⟨⟨by decide +kernel, by decide +kernel⟩, List.mem_of_getElem? (i := 16) (by decide +kernel), List.mem_of_getElem? (i := 415) (by decide +kernel), List.mem_of_getElem? (i := 416) (by decide +kernel)⟩
theorem lw_p5 : lw_okq (⟨"HangerRail", "betterFacing", "(II)I"⟩, 9) := ⟨⟨by decide +kernel, by decide +kernel⟩, List.mem_of_getElem? (i := 16) (by decide +kernel), List.mem_of_getElem? (i := 436) (by decide +kernel), List.mem_of_getElem? (i := 437) (by decide +kernel)⟩
theorem lw_p6 : lw_okq (⟨"HangerRail$Reader", "step", "()V"⟩, 5) := ⟨⟨by decide +kernel, by decide +kernel⟩, List.mem_of_getElem? (i := 110) (by decide +kernel), List.mem_of_getElem? (i := 498) (by decide +kernel), List.mem_of_getElem? (i := 499) (by decide +kernel)⟩
theorem lw_p7 : lw_okq (⟨"HangerRail$Reader", "stepWord", "()V"⟩, 5) := ⟨⟨by decide +kernel, by decide +kernel⟩, List.mem_of_getElem? (i := 110) (by decide +kernel), List.mem_of_getElem? (i := 505) (by decide +kernel), List.mem_of_getElem? (i := 506) (by decide +kernel)⟩
theorem lw_p8 : lw_okq (⟨"HangerRail$Reader", "stepNumber", "()V"⟩, 5) := ⟨⟨by decide +kernel, by decide +kernel⟩, List.mem_of_getElem? (i := 110) (by decide +kernel), List.mem_of_getElem? (i := 512) (by decide +kernel), List.mem_of_getElem? (i := 513) (by decide +kernel)⟩
theorem lw_p9 : lw_okq (⟨"HangerRail$Reader", "readItem", "(LHangerRail$Rail;)Z"⟩, 5) := ⟨⟨by decide +kernel, by decide +kernel⟩, List.mem_of_getElem? (i := 110) (by decide +kernel), List.mem_of_getElem? (i := 517) (by decide +kernel), List.mem_of_getElem? (i := 518) (by decide +kernel)⟩
theorem lw_p10 : lw_okq (⟨"HangerRail$Reader", "isWord", "(Ljava/lang/String;)Z"⟩, 5) := ⟨⟨by decide +kernel, by decide +kernel⟩, List.mem_of_getElem? (i := 110) (by decide +kernel), List.mem_of_getElem? (i := 522) (by decide +kernel), List.mem_of_getElem? (i := 523) (by decide +kernel)⟩
theorem lw_p11 : lw_okq (⟨"HangerRail$Reader", "isNumber", "(II)Z"⟩, 5) := ⟨⟨by decide +kernel, by decide +kernel⟩, List.mem_of_getElem? (i := 110) (by decide +kernel), List.mem_of_getElem? (i := 574) (by decide +kernel), List.mem_of_getElem? (i := 575) (by decide +kernel)⟩
theorem lw_p12 : lw_okq (⟨"HangerRail$Reader", "namedKind", "()I"⟩, 5) := ⟨⟨by decide +kernel, by decide +kernel⟩, List.mem_of_getElem? (i := 110) (by decide +kernel), List.mem_of_getElem? (i := 578) (by decide +kernel), List.mem_of_getElem? (i := 579) (by decide +kernel)⟩
theorem lw_p13 : lw_okq (⟨"HangerRail$Reader", "readPlace", "(LHangerRail$Rail;I)Z"⟩, 5) := ⟨⟨by decide +kernel, by decide +kernel⟩, List.mem_of_getElem? (i := 110) (by decide +kernel), List.mem_of_getElem? (i := 592) (by decide +kernel), List.mem_of_getElem? (i := 593) (by decide +kernel)⟩
theorem lw_p14 : lw_okq (⟨"HangerRail$Reader", "readBack", "(LHangerRail$Rail;I)Z"⟩, 5) := ⟨⟨by decide +kernel, by decide +kernel⟩, List.mem_of_getElem? (i := 110) (by decide +kernel), List.mem_of_getElem? (i := 599) (by decide +kernel), List.mem_of_getElem? (i := 600) (by decide +kernel)⟩
theorem lw_p15 : lw_okq (⟨"HangerRail$Reader", "readShirt", "(LHangerRail$Rail;I)Z"⟩, 5) := ⟨⟨by decide +kernel, by decide +kernel⟩, List.mem_of_getElem? (i := 110) (by decide +kernel), List.mem_of_getElem? (i := 604) (by decide +kernel), List.mem_of_getElem? (i := 605) (by decide +kernel)⟩
def lw_privs_1 : List (MethodName × Nat) := [(⟨"HangerRail", "told", "(I)I"⟩, 9), (⟨"HangerRail", "findingAgainstTaking", "(II)I"⟩, 9), (⟨"HangerRail$Tangle", "nearFacing", "(II)I"⟩, 3), (⟨"HangerRail", "howManyFall", "(II)I"⟩, 9), (⟨"HangerRail", "harm", "(II)I"⟩, 9), (⟨"HangerRail", "betterFacing", "(II)I"⟩, 9), (⟨"HangerRail$Reader", "step", "()V"⟩, 5), (⟨"HangerRail$Reader", "stepWord", "()V"⟩, 5), (⟨"HangerRail$Reader", "stepNumber", "()V"⟩, 5), (⟨"HangerRail$Reader", "readItem", "(LHangerRail$Rail;)Z"⟩, 5), (⟨"HangerRail$Reader", "isWord", "(Ljava/lang/String;)Z"⟩, 5), (⟨"HangerRail$Reader", "isNumber", "(II)Z"⟩, 5), (⟨"HangerRail$Reader", "namedKind", "()I"⟩, 5), (⟨"HangerRail$Reader", "readPlace", "(LHangerRail$Rail;I)Z"⟩, 5), (⟨"HangerRail$Reader", "readBack", "(LHangerRail$Rail;I)Z"⟩, 5), (⟨"HangerRail$Reader", "readShirt", "(LHangerRail$Rail;I)Z"⟩, 5)]
theorem lw_r1 : ∀ q ∈ lw_privs_1, lw_okq q := List.forall_mem_cons.mpr ⟨lw_p0, List.forall_mem_cons.mpr ⟨lw_p1, List.forall_mem_cons.mpr ⟨lw_p2, List.forall_mem_cons.mpr ⟨lw_p3, List.forall_mem_cons.mpr ⟨lw_p4, List.forall_mem_cons.mpr ⟨lw_p5, List.forall_mem_cons.mpr ⟨lw_p6, List.forall_mem_cons.mpr ⟨lw_p7, List.forall_mem_cons.mpr ⟨lw_p8, List.forall_mem_cons.mpr ⟨lw_p9, List.forall_mem_cons.mpr ⟨lw_p10, List.forall_mem_cons.mpr ⟨lw_p11, List.forall_mem_cons.mpr ⟨lw_p12, List.forall_mem_cons.mpr ⟨lw_p13, List.forall_mem_cons.mpr ⟨lw_p14, List.forall_mem_cons.mpr ⟨lw_p15, fun _ h => absurd h List.not_mem_nil⟩⟩⟩⟩⟩⟩⟩⟩⟩⟩⟩⟩⟩⟩⟩⟩
theorem lw_p16 : lw_okq (⟨"HangerRail$Reader", "readFeel", "(LHangerRail$Rail;I)Z"⟩, 5) := ⟨⟨by decide +kernel, by decide +kernel⟩, List.mem_of_getElem? (i := 110) (by decide +kernel), List.mem_of_getElem? (i := 609) (by decide +kernel), List.mem_of_getElem? (i := 610) (by decide +kernel)⟩
theorem lw_p17 : lw_okq (⟨"HangerRail", "findingAgainstSheet", "(I)I"⟩, 9) := ⟨⟨by decide +kernel, by decide +kernel⟩, List.mem_of_getElem? (i := 16) (by decide +kernel), List.mem_of_getElem? (i := 630) (by decide +kernel), List.mem_of_getElem? (i := 631) (by decide +kernel)⟩
theorem lw_p18 : lw_okq (⟨"HangerRailModel", "finds", "(I)I"⟩, 19) := ⟨⟨by decide +kernel, by decide +kernel⟩, List.mem_of_getElem? (i := 688) (by decide +kernel), List.mem_of_getElem? (i := 764) (by decide +kernel), List.mem_of_getElem? (i := 765) (by decide +kernel)⟩
theorem lw_p19 : lw_okq (⟨"HangerRailModel", "adds", "(I)I"⟩, 19) := ⟨⟨by decide +kernel, by decide +kernel⟩, List.mem_of_getElem? (i := 688) (by decide +kernel), List.mem_of_getElem? (i := 769) (by decide +kernel), List.mem_of_getElem? (i := 770) (by decide +kernel)⟩
theorem lw_p20 : lw_okq (⟨"HangerRailModel", "isHanger", "(I)Z"⟩, 19) := ⟨⟨by decide +kernel, by decide +kernel⟩, List.mem_of_getElem? (i := 688) (by decide +kernel), List.mem_of_getElem? (i := 780) (by decide +kernel), List.mem_of_getElem? (i := 781) (by decide +kernel)⟩
theorem lw_p21 : lw_okq (⟨"HangerRailModel", "its", "(II)I"⟩, 19) := ⟨⟨by decide +kernel, by decide +kernel⟩, List.mem_of_getElem? (i := 688) (by decide +kernel), List.mem_of_getElem? (i := 785) (by decide +kernel), List.mem_of_getElem? (i := 786) (by decide +kernel)⟩
theorem lw_p22 : lw_okq (⟨"HangerRailModel", "holds", "(I)I"⟩, 19) := ⟨⟨by decide +kernel, by decide +kernel⟩, List.mem_of_getElem? (i := 688) (by decide +kernel), List.mem_of_getElem? (i := 789) (by decide +kernel), List.mem_of_getElem? (i := 790) (by decide +kernel)⟩
theorem lw_p23 : lw_okq (⟨"HangerRailModel", "needs", "(I)I"⟩, 19) := ⟨⟨by decide +kernel, by decide +kernel⟩, List.mem_of_getElem? (i := 688) (by decide +kernel), List.mem_of_getElem? (i := 793) (by decide +kernel), List.mem_of_getElem? (i := 794) (by decide +kernel)⟩
theorem lw_p24 : lw_okq (⟨"HangerRailModel", "becomes", "(II)I"⟩, 19) := ⟨⟨by decide +kernel, by decide +kernel⟩, List.mem_of_getElem? (i := 688) (by decide +kernel), List.mem_of_getElem? (i := 803) (by decide +kernel), List.mem_of_getElem? (i := 804) (by decide +kernel)⟩
theorem lw_p25 : lw_okq (⟨"HangerRailModel", "who", "(I)I"⟩, 19) := ⟨⟨by decide +kernel, by decide +kernel⟩, List.mem_of_getElem? (i := 688) (by decide +kernel), List.mem_of_getElem? (i := 832) (by decide +kernel), List.mem_of_getElem? (i := 833) (by decide +kernel)⟩
theorem lw_p26 : lw_okq (⟨"HangerRailModel", "isOn", "(I)Z"⟩, 19) := ⟨⟨by decide +kernel, by decide +kernel⟩, List.mem_of_getElem? (i := 688) (by decide +kernel), List.mem_of_getElem? (i := 841) (by decide +kernel), List.mem_of_getElem? (i := 842) (by decide +kernel)⟩
theorem lw_p27 : lw_okq (⟨"HangerRailModel", "isFree", "(I)Z"⟩, 19) := ⟨⟨by decide +kernel, by decide +kernel⟩, List.mem_of_getElem? (i := 688) (by decide +kernel), List.mem_of_getElem? (i := 845) (by decide +kernel), List.mem_of_getElem? (i := 846) (by decide +kernel)⟩
theorem lw_p28 : lw_okq (⟨"HangerRailModel", "hangs", "(II)V"⟩, 19) := ⟨⟨by decide +kernel, by decide +kernel⟩, List.mem_of_getElem? (i := 688) (by decide +kernel), List.mem_of_getElem? (i := 850) (by decide +kernel), List.mem_of_getElem? (i := 851) (by decide +kernel)⟩
theorem lw_p29 : lw_okq (⟨"HangerRailModel", "moved", "()V"⟩, 19) := ⟨⟨by decide +kernel, by decide +kernel⟩, List.mem_of_getElem? (i := 688) (by decide +kernel), List.mem_of_getElem? (i := 854) (by decide +kernel), List.mem_of_getElem? (i := 855) (by decide +kernel)⟩
theorem lw_p30 : lw_okq (⟨"HangerRailModel", "onRail", "()I"⟩, 19) := ⟨⟨by decide +kernel, by decide +kernel⟩, List.mem_of_getElem? (i := 688) (by decide +kernel), List.mem_of_getElem? (i := 858) (by decide +kernel), List.mem_of_getElem? (i := 859) (by decide +kernel)⟩
theorem lw_p31 : lw_okq (⟨"HangerRailModel", "wrongTaking", "(II)I"⟩, 19) := ⟨⟨by decide +kernel, by decide +kernel⟩, List.mem_of_getElem? (i := 688) (by decide +kernel), List.mem_of_getElem? (i := 879) (by decide +kernel), List.mem_of_getElem? (i := 880) (by decide +kernel)⟩
def lw_privs_2 : List (MethodName × Nat) := [(⟨"HangerRail$Reader", "readFeel", "(LHangerRail$Rail;I)Z"⟩, 5), (⟨"HangerRail", "findingAgainstSheet", "(I)I"⟩, 9), (⟨"HangerRailModel", "finds", "(I)I"⟩, 19), (⟨"HangerRailModel", "adds", "(I)I"⟩, 19), (⟨"HangerRailModel", "isHanger", "(I)Z"⟩, 19), (⟨"HangerRailModel", "its", "(II)I"⟩, 19), (⟨"HangerRailModel", "holds", "(I)I"⟩, 19), (⟨"HangerRailModel", "needs", "(I)I"⟩, 19), (⟨"HangerRailModel", "becomes", "(II)I"⟩, 19), (⟨"HangerRailModel", "who", "(I)I"⟩, 19), (⟨"HangerRailModel", "isOn", "(I)Z"⟩, 19), (⟨"HangerRailModel", "isFree", "(I)Z"⟩, 19), (⟨"HangerRailModel", "hangs", "(II)V"⟩, 19), (⟨"HangerRailModel", "moved", "()V"⟩, 19), (⟨"HangerRailModel", "onRail", "()I"⟩, 19), (⟨"HangerRailModel", "wrongTaking", "(II)I"⟩, 19)]
theorem lw_r2 : ∀ q ∈ lw_privs_2, lw_okq q := List.forall_mem_cons.mpr ⟨lw_p16, List.forall_mem_cons.mpr ⟨lw_p17, List.forall_mem_cons.mpr ⟨lw_p18, List.forall_mem_cons.mpr ⟨lw_p19, List.forall_mem_cons.mpr ⟨lw_p20, List.forall_mem_cons.mpr ⟨lw_p21, List.forall_mem_cons.mpr ⟨lw_p22, List.forall_mem_cons.mpr ⟨lw_p23, List.forall_mem_cons.mpr ⟨lw_p24, List.forall_mem_cons.mpr ⟨lw_p25, List.forall_mem_cons.mpr ⟨lw_p26, List.forall_mem_cons.mpr ⟨lw_p27, List.forall_mem_cons.mpr ⟨lw_p28, List.forall_mem_cons.mpr ⟨lw_p29, List.forall_mem_cons.mpr ⟨lw_p30, List.forall_mem_cons.mpr ⟨lw_p31, fun _ h => absurd h List.not_mem_nil⟩⟩⟩⟩⟩⟩⟩⟩⟩⟩⟩⟩⟩⟩⟩⟩
theorem lw_p32 : lw_okq (⟨"HangerRailModel", "mayTake", "(II)Z"⟩, 19) := ⟨⟨by decide +kernel, by decide +kernel⟩, List.mem_of_getElem? (i := 688) (by decide +kernel), List.mem_of_getElem? (i := 887) (by decide +kernel), List.mem_of_getElem? (i := 888) (by decide +kernel)⟩
theorem lw_p33 : lw_okq (⟨"HangerRailModel", "takes", "(II)I"⟩, 19) := ⟨⟨by decide +kernel, by decide +kernel⟩, List.mem_of_getElem? (i := 688) (by decide +kernel), List.mem_of_getElem? (i := 891) (by decide +kernel), List.mem_of_getElem? (i := 892) (by decide +kernel)⟩
theorem lw_p34 : lw_okq (⟨"HangerRailModel", "comesBy", "(II)I"⟩, 19) := ⟨⟨by decide +kernel, by decide +kernel⟩, List.mem_of_getElem? (i := 688) (by decide +kernel), List.mem_of_getElem? (i := 895) (by decide +kernel), List.mem_of_getElem? (i := 896) (by decide +kernel)⟩
theorem lw_p35 : lw_okq (⟨"HangerRailModel", "heapOf", "(I)I"⟩, 19) := ⟨⟨by decide +kernel, by decide +kernel⟩, List.mem_of_getElem? (i := 688) (by decide +kernel), List.mem_of_getElem? (i := 899) (by decide +kernel), List.mem_of_getElem? (i := 900) (by decide +kernel)⟩
theorem lw_p36 : lw_okq (⟨"HangerRailModel", "tangledWith", "(I)I"⟩, 19) := ⟨⟨by decide +kernel, by decide +kernel⟩, List.mem_of_getElem? (i := 688) (by decide +kernel), List.mem_of_getElem? (i := 903) (by decide +kernel), List.mem_of_getElem? (i := 904) (by decide +kernel)⟩
theorem lw_p37 : lw_okq (⟨"HangerRailModel", "areTangled", "(II)Z"⟩, 19) := ⟨⟨by decide +kernel, by decide +kernel⟩, List.mem_of_getElem? (i := 688) (by decide +kernel), List.mem_of_getElem? (i := 907) (by decide +kernel), List.mem_of_getElem? (i := 908) (by decide +kernel)⟩
theorem lw_p38 : lw_okq (⟨"HangerRailModel", "isCaught", "(II)Z"⟩, 19) := ⟨⟨by decide +kernel, by decide +kernel⟩, List.mem_of_getElem? (i := 688) (by decide +kernel), List.mem_of_getElem? (i := 911) (by decide +kernel), List.mem_of_getElem? (i := 912) (by decide +kernel)⟩
theorem lw_p39 : lw_okq (⟨"HangerRailModel", "fallers", "(II)I"⟩, 19) := ⟨⟨by decide +kernel, by decide +kernel⟩, List.mem_of_getElem? (i := 688) (by decide +kernel), List.mem_of_getElem? (i := 915) (by decide +kernel), List.mem_of_getElem? (i := 916) (by decide +kernel)⟩
theorem lw_p40 : lw_okq (⟨"HangerRailModel", "pairs", "()I"⟩, 19) := ⟨⟨by decide +kernel, by decide +kernel⟩, List.mem_of_getElem? (i := 688) (by decide +kernel), List.mem_of_getElem? (i := 923) (by decide +kernel), List.mem_of_getElem? (i := 924) (by decide +kernel)⟩
theorem lw_p41 : lw_okq (⟨"HangerRailModel", "shirts", "()I"⟩, 19) := ⟨⟨by decide +kernel, by decide +kernel⟩, List.mem_of_getElem? (i := 688) (by decide +kernel), List.mem_of_getElem? (i := 927) (by decide +kernel), List.mem_of_getElem? (i := 928) (by decide +kernel)⟩
theorem lw_p42 : lw_okq (⟨"HangerRailModel", "together", "(I)I"⟩, 19) := ⟨⟨by decide +kernel, by decide +kernel⟩, List.mem_of_getElem? (i := 688) (by decide +kernel), List.mem_of_getElem? (i := 931) (by decide +kernel), List.mem_of_getElem? (i := 932) (by decide +kernel)⟩
theorem lw_p43 : lw_okq (⟨"HangerRailModel", "findHeaps", "()V"⟩, 19) := ⟨⟨by decide +kernel, by decide +kernel⟩, List.mem_of_getElem? (i := 688) (by decide +kernel), List.mem_of_getElem? (i := 955) (by decide +kernel), List.mem_of_getElem? (i := 956) (by decide +kernel)⟩
theorem lw_p44 : lw_okq (⟨"HangerRailModel", "facesAll", "(I)V"⟩, 19) := ⟨⟨by decide +kernel, by decide +kernel⟩, List.mem_of_getElem? (i := 688) (by decide +kernel), List.mem_of_getElem? (i := 979) (by decide +kernel), List.mem_of_getElem? (i := 980) (by decide +kernel)⟩
theorem lw_p45 : lw_okq (⟨"HangerRailModel", "laysAside", "()V"⟩, 19) := ⟨⟨by decide +kernel, by decide +kernel⟩, List.mem_of_getElem? (i := 688) (by decide +kernel), List.mem_of_getElem? (i := 987) (by decide +kernel), List.mem_of_getElem? (i := 988) (by decide +kernel)⟩
theorem lw_p46 : lw_okq (⟨"HangerRailModel", "takesBack", "(I)I"⟩, 19) := ⟨⟨by decide +kernel, by decide +kernel⟩, List.mem_of_getElem? (i := 688) (by decide +kernel), List.mem_of_getElem? (i := 991) (by decide +kernel), List.mem_of_getElem? (i := 992) (by decide +kernel)⟩
theorem lw_p47 : lw_okq (⟨"HangerRailModel", "fewestAway", "()I"⟩, 19) := ⟨⟨by decide +kernel, by decide +kernel⟩, List.mem_of_getElem? (i := 688) (by decide +kernel), List.mem_of_getElem? (i := 999) (by decide +kernel), List.mem_of_getElem? (i := 1000) (by decide +kernel)⟩
def lw_privs_3 : List (MethodName × Nat) := [(⟨"HangerRailModel", "mayTake", "(II)Z"⟩, 19), (⟨"HangerRailModel", "takes", "(II)I"⟩, 19), (⟨"HangerRailModel", "comesBy", "(II)I"⟩, 19), (⟨"HangerRailModel", "heapOf", "(I)I"⟩, 19), (⟨"HangerRailModel", "tangledWith", "(I)I"⟩, 19), (⟨"HangerRailModel", "areTangled", "(II)Z"⟩, 19), (⟨"HangerRailModel", "isCaught", "(II)Z"⟩, 19), (⟨"HangerRailModel", "fallers", "(II)I"⟩, 19), (⟨"HangerRailModel", "pairs", "()I"⟩, 19), (⟨"HangerRailModel", "shirts", "()I"⟩, 19), (⟨"HangerRailModel", "together", "(I)I"⟩, 19), (⟨"HangerRailModel", "findHeaps", "()V"⟩, 19), (⟨"HangerRailModel", "facesAll", "(I)V"⟩, 19), (⟨"HangerRailModel", "laysAside", "()V"⟩, 19), (⟨"HangerRailModel", "takesBack", "(I)I"⟩, 19), (⟨"HangerRailModel", "fewestAway", "()I"⟩, 19)]
theorem lw_r3 : ∀ q ∈ lw_privs_3, lw_okq q := List.forall_mem_cons.mpr ⟨lw_p32, List.forall_mem_cons.mpr ⟨lw_p33, List.forall_mem_cons.mpr ⟨lw_p34, List.forall_mem_cons.mpr ⟨lw_p35, List.forall_mem_cons.mpr ⟨lw_p36, List.forall_mem_cons.mpr ⟨lw_p37, List.forall_mem_cons.mpr ⟨lw_p38, List.forall_mem_cons.mpr ⟨lw_p39, List.forall_mem_cons.mpr ⟨lw_p40, List.forall_mem_cons.mpr ⟨lw_p41, List.forall_mem_cons.mpr ⟨lw_p42, List.forall_mem_cons.mpr ⟨lw_p43, List.forall_mem_cons.mpr ⟨lw_p44, List.forall_mem_cons.mpr ⟨lw_p45, List.forall_mem_cons.mpr ⟨lw_p46, List.forall_mem_cons.mpr ⟨lw_p47, fun _ h => absurd h List.not_mem_nil⟩⟩⟩⟩⟩⟩⟩⟩⟩⟩⟩⟩⟩⟩⟩⟩
theorem lw_p48 : lw_okq (⟨"HangerRailModel", "isUntangled", "(I)Z"⟩, 19) := ⟨⟨by decide +kernel, by decide +kernel⟩, List.mem_of_getElem? (i := 688) (by decide +kernel), List.mem_of_getElem? (i := 1003) (by decide +kernel), List.mem_of_getElem? (i := 1004) (by decide +kernel)⟩
theorem lw_p49 : lw_okq (⟨"HangerRailModel", "keepsAside", "()V"⟩, 19) := ⟨⟨by decide +kernel, by decide +kernel⟩, List.mem_of_getElem? (i := 688) (by decide +kernel), List.mem_of_getElem? (i := 1032) (by decide +kernel), List.mem_of_getElem? (i := 1033) (by decide +kernel)⟩
theorem lw_p50 : lw_okq (⟨"HangerRailModel", "token", "()V"⟩, 19) := ⟨⟨by decide +kernel, by decide +kernel⟩, List.mem_of_getElem? (i := 688) (by decide +kernel), List.mem_of_getElem? (i := 1036) (by decide +kernel), List.mem_of_getElem? (i := 1037) (by decide +kernel)⟩
theorem lw_p51 : lw_okq (⟨"HangerRailModel", "byteAt", "(I)I"⟩, 19) := ⟨⟨by decide +kernel, by decide +kernel⟩, List.mem_of_getElem? (i := 688) (by decide +kernel), List.mem_of_getElem? (i := 1040) (by decide +kernel), List.mem_of_getElem? (i := 1041) (by decide +kernel)⟩
theorem lw_p52 : lw_okq (⟨"HangerRailModel", "item", "()V"⟩, 19) := ⟨⟨by decide +kernel, by decide +kernel⟩, List.mem_of_getElem? (i := 688) (by decide +kernel), List.mem_of_getElem? (i := 1054) (by decide +kernel), List.mem_of_getElem? (i := 1055) (by decide +kernel)⟩
theorem lw_p53 : lw_okq (⟨"HangerRailModel", "kindHere", "()I"⟩, 19) := ⟨⟨by decide +kernel, by decide +kernel⟩, List.mem_of_getElem? (i := 688) (by decide +kernel), List.mem_of_getElem? (i := 1058) (by decide +kernel), List.mem_of_getElem? (i := 1059) (by decide +kernel)⟩
theorem lw_p54 : lw_okq (⟨"HangerRailModel", "word", "()J"⟩, 19) := ⟨⟨by decide +kernel, by decide +kernel⟩, List.mem_of_getElem? (i := 688) (by decide +kernel), List.mem_of_getElem? (i := 1062) (by decide +kernel), List.mem_of_getElem? (i := 1063) (by decide +kernel)⟩
theorem lw_p55 : lw_okq (⟨"HangerRailModel", "hangerItem", "(I)V"⟩, 19) := ⟨⟨by decide +kernel, by decide +kernel⟩, List.mem_of_getElem? (i := 688) (by decide +kernel), List.mem_of_getElem? (i := 1074) (by decide +kernel), List.mem_of_getElem? (i := 1075) (by decide +kernel)⟩
theorem lw_p56 : lw_okq (⟨"HangerRailModel", "must", "(Z)V"⟩, 19) := ⟨⟨by decide +kernel, by decide +kernel⟩, List.mem_of_getElem? (i := 688) (by decide +kernel), List.mem_of_getElem? (i := 1078) (by decide +kernel), List.mem_of_getElem? (i := 1079) (by decide +kernel)⟩
theorem lw_p57 : lw_okq (⟨"HangerRailModel", "atItem", "(I)V"⟩, 19) := ⟨⟨by decide +kernel, by decide +kernel⟩, List.mem_of_getElem? (i := 688) (by decide +kernel), List.mem_of_getElem? (i := 1083) (by decide +kernel), List.mem_of_getElem? (i := 1084) (by decide +kernel)⟩
theorem lw_p58 : lw_okq (⟨"HangerRailModel", "numberHere", "()I"⟩, 19) := ⟨⟨by decide +kernel, by decide +kernel⟩, List.mem_of_getElem? (i := 688) (by decide +kernel), List.mem_of_getElem? (i := 1087) (by decide +kernel), List.mem_of_getElem? (i := 1088) (by decide +kernel)⟩
theorem lw_p59 : lw_okq (⟨"HangerRailModel", "number", "(II)V"⟩, 19) := ⟨⟨by decide +kernel, by decide +kernel⟩, List.mem_of_getElem? (i := 688) (by decide +kernel), List.mem_of_getElem? (i := 1093) (by decide +kernel), List.mem_of_getElem? (i := 1094) (by decide +kernel)⟩
theorem lw_p60 : lw_okq (⟨"HangerRailModel", "putsBack", "()V"⟩, 19) := ⟨⟨by decide +kernel, by decide +kernel⟩, List.mem_of_getElem? (i := 688) (by decide +kernel), List.mem_of_getElem? (i := 1099) (by decide +kernel), List.mem_of_getElem? (i := 1100) (by decide +kernel)⟩
theorem lw_p61 : lw_okq (⟨"HangerRailModel", "wrongSheet", "(I)I"⟩, 19) := ⟨⟨by decide +kernel, by decide +kernel⟩, List.mem_of_getElem? (i := 688) (by decide +kernel), List.mem_of_getElem? (i := 1116) (by decide +kernel), List.mem_of_getElem? (i := 1117) (by decide +kernel)⟩
def lw_privs_4 : List (MethodName × Nat) := [(⟨"HangerRailModel", "isUntangled", "(I)Z"⟩, 19), (⟨"HangerRailModel", "keepsAside", "()V"⟩, 19), (⟨"HangerRailModel", "token", "()V"⟩, 19), (⟨"HangerRailModel", "byteAt", "(I)I"⟩, 19), (⟨"HangerRailModel", "item", "()V"⟩, 19), (⟨"HangerRailModel", "kindHere", "()I"⟩, 19), (⟨"HangerRailModel", "word", "()J"⟩, 19), (⟨"HangerRailModel", "hangerItem", "(I)V"⟩, 19), (⟨"HangerRailModel", "must", "(Z)V"⟩, 19), (⟨"HangerRailModel", "atItem", "(I)V"⟩, 19), (⟨"HangerRailModel", "numberHere", "()I"⟩, 19), (⟨"HangerRailModel", "number", "(II)V"⟩, 19), (⟨"HangerRailModel", "putsBack", "()V"⟩, 19), (⟨"HangerRailModel", "wrongSheet", "(I)I"⟩, 19)]
theorem lw_r4 : ∀ q ∈ lw_privs_4, lw_okq q := List.forall_mem_cons.mpr ⟨lw_p48, List.forall_mem_cons.mpr ⟨lw_p49, List.forall_mem_cons.mpr ⟨lw_p50, List.forall_mem_cons.mpr ⟨lw_p51, List.forall_mem_cons.mpr ⟨lw_p52, List.forall_mem_cons.mpr ⟨lw_p53, List.forall_mem_cons.mpr ⟨lw_p54, List.forall_mem_cons.mpr ⟨lw_p55, List.forall_mem_cons.mpr ⟨lw_p56, List.forall_mem_cons.mpr ⟨lw_p57, List.forall_mem_cons.mpr ⟨lw_p58, List.forall_mem_cons.mpr ⟨lw_p59, List.forall_mem_cons.mpr ⟨lw_p60, List.forall_mem_cons.mpr ⟨lw_p61, fun _ h => absurd h List.not_mem_nil⟩⟩⟩⟩⟩⟩⟩⟩⟩⟩⟩⟩⟩⟩
def lw_privs : List (MethodName × Nat) := lw_privs_1 ++ (lw_privs_2 ++ (lw_privs_3 ++ (lw_privs_4)))
def lw_tbl : List Cond := k2_sels lw_privs ++ tables_1
theorem lw_privs_ok : ∀ q ∈ lw_privs, lw_okq q := by
  show ∀ q ∈ lw_privs_1 ++ (lw_privs_2 ++ (lw_privs_3 ++ (lw_privs_4))), lw_okq q
  exact List.forall_mem_append.mpr ⟨lw_r1, List.forall_mem_append.mpr ⟨lw_r2, List.forall_mem_append.mpr ⟨lw_r3, lw_r4⟩⟩⟩
end
section
def RX0 : String := "HangerRail$Rail"
def TX0 : u_T := fun k => match k with
  | 0 => ("HangerRail$Rail", "hangers", "I", false)
  | 1 => ("HangerRail$Rail", "moves", "I", false)
  | 2 => ("HangerRail$Rail", "price", "I", false)
  | 3 => ("HangerRail$Rail", "back", "I", false)
  | 4 => ("HangerRail$Rail", "kindOf", "[I", true)
  | 5 => ("HangerRail$Rail", "placeOf", "[I", true)
  | 6 => ("HangerRail$Rail", "slipOf", "[I", true)
  | 7 => ("HangerRail$Rail", "feelOf", "[I", true)
  | _ => ("HangerRail$Rail", "hangerAt", "[I", true)
def tyX0 : Nat → FieldType := fun k => match k with
  | 0 => .int
  | 1 => .int
  | 2 => .int
  | 3 => .int
  | 4 => .array .int
  | 5 => .array .int
  | 6 => .array .int
  | 7 => .array .int
  | _ => .array .int
abbrev wsX00 : List Cond := u_ws RX0 TX0 9
theorem nmX0 : ∀ a, a < 9 → ∀ b, b < 9 → a ≠ b → (TX0 a).2.1 ≠ (TX0 b).2.1 := by decide +kernel
theorem tyX0_ok : ∀ k, k < 9 → parseFieldDescriptor (TX0 k).2.2.1 = some (tyX0 k) := by decide +kernel
abbrev cX0_init : ByteArray := prog_2_method_1_code
def yX0_init : MethodName := ⟨RX0, "<init>", "()V"⟩
abbrev cX0_become : ByteArray := prog_2_method_2_code
def yX0_become : MethodName := ⟨RX0, "become", "(LHangerRail$Rail;)V"⟩
abbrev cX0_has : ByteArray := prog_2_method_3_code
def yX0_has : MethodName := ⟨RX0, "has", "(I)Z"⟩
abbrev cX0_isUp : ByteArray := prog_2_method_4_code
def yX0_isUp : MethodName := ⟨RX0, "isUp", "(I)Z"⟩
abbrev cX0_isFree : ByteArray := prog_2_method_5_code
def yX0_isFree : MethodName := ⟨RX0, "isFree", "(I)Z"⟩
abbrev cX0_facingOf : ByteArray := prog_2_method_6_code
def yX0_facingOf : MethodName := ⟨RX0, "facingOf", "(I)I"⟩
abbrev cX0_addHanger : ByteArray := prog_2_method_7_code
def yX0_addHanger : MethodName := ⟨RX0, "addHanger", "(I)I"⟩
abbrev cX0_put : ByteArray := prog_2_method_8_code
def yX0_put : MethodName := ⟨RX0, "put", "(II)V"⟩
abbrev cX0_putOut : ByteArray := prog_2_method_9_code
def yX0_putOut : MethodName := ⟨RX0, "putOut", "(I)V"⟩
abbrev cX0_addMove : ByteArray := prog_2_method_10_code
def yX0_addMove : MethodName := ⟨RX0, "addMove", "()V"⟩
abbrev cX0_up : ByteArray := prog_2_method_11_code
def yX0_up : MethodName := ⟨RX0, "up", "()I"⟩
abbrev cX0_shirts : ByteArray := prog_2_method_12_code
def yX0_shirts : MethodName := ⟨RX0, "shirts", "()I"⟩
abbrev cX0_slips : ByteArray := prog_2_method_13_code
def yX0_slips : MethodName := ⟨RX0, "slips", "()I"⟩
abbrev cX0_hasRoom : ByteArray := prog_2_method_14_code
def yX0_hasRoom : MethodName := ⟨RX0, "hasRoom", "(I)Z"⟩
abbrev cX0_falling : ByteArray := prog_2_method_15_code
def yX0_falling : MethodName := ⟨RX0, "falling", "(III)I"⟩
abbrev cX0_strip : ByteArray := prog_2_method_16_code
def yX0_strip : MethodName := ⟨RX0, "strip", "(I)V"⟩
abbrev cX0_tangledWith : ByteArray := prog_2_method_17_code
def yX0_tangledWith : MethodName := ⟨RX0, "tangledWith", "(III)I"⟩
abbrev cX0_tangledIf : ByteArray := prog_2_method_18_code
def yX0_tangledIf : MethodName := ⟨RX0, "tangledIf", "(IIIZ)I"⟩
abbrev cX0_isAloneAt : ByteArray := prog_2_method_19_code
def yX0_isAloneAt : MethodName := ⟨RX0, "isAloneAt", "(II)Z"⟩
abbrev cX0_alike : ByteArray := prog_2_method_20_code
def yX0_alike : MethodName := ⟨RX0, "alike", "(II)I"⟩
def RX1 : String := "HangerRail$Reader"
def TX1 : u_T := fun k => match k with
  | 0 => ("HangerRail$Reader", "tape", "LHangerRail$Tape;", true)
  | 1 => ("HangerRail$Reader", "token", "I", false)
  | 2 => ("HangerRail$Reader", "from", "I", false)
  | 3 => ("HangerRail$Reader", "to", "I", false)
  | _ => ("HangerRail$Reader", "number", "I", false)
def tyX1 : Nat → FieldType := fun k => match k with
  | 0 => .object "HangerRail$Tape"
  | 1 => .int
  | 2 => .int
  | 3 => .int
  | _ => .int
abbrev wsX10 : List Cond := u_ws RX1 TX1 5
theorem nmX1 : ∀ a, a < 5 → ∀ b, b < 5 → a ≠ b → (TX1 a).2.1 ≠ (TX1 b).2.1 := by decide +kernel
theorem tyX1_ok : ∀ k, k < 5 → parseFieldDescriptor (TX1 k).2.2.1 = some (tyX1 k) := by decide +kernel
abbrev cX1_init : ByteArray := prog_3_method_1_code
def yX1_init : MethodName := ⟨RX1, "<init>", "(LHangerRail$Tape;)V"⟩
abbrev cX1_readItems : ByteArray := prog_3_method_2_code
def yX1_readItems : MethodName := ⟨RX1, "readItems", "(LHangerRail$Rail;)I"⟩
abbrev cX1_readItem : ByteArray := prog_3_method_3_code
def yX1_readItem : MethodName := ⟨RX1, "readItem", "(LHangerRail$Rail;)Z"⟩
abbrev cX1_readPlace : ByteArray := prog_3_method_4_code
def yX1_readPlace : MethodName := ⟨RX1, "readPlace", "(LHangerRail$Rail;I)Z"⟩
abbrev cX1_readBack : ByteArray := prog_3_method_5_code
def yX1_readBack : MethodName := ⟨RX1, "readBack", "(LHangerRail$Rail;I)Z"⟩
abbrev cX1_readShirt : ByteArray := prog_3_method_6_code
def yX1_readShirt : MethodName := ⟨RX1, "readShirt", "(LHangerRail$Rail;I)Z"⟩
abbrev cX1_readFeel : ByteArray := prog_3_method_7_code
def yX1_readFeel : MethodName := ⟨RX1, "readFeel", "(LHangerRail$Rail;I)Z"⟩
abbrev cX1_isNumber : ByteArray := prog_3_method_8_code
def yX1_isNumber : MethodName := ⟨RX1, "isNumber", "(II)Z"⟩
abbrev cX1_isWord : ByteArray := prog_3_method_9_code
def yX1_isWord : MethodName := ⟨RX1, "isWord", "(Ljava/lang/String;)Z"⟩
abbrev cX1_namedKind : ByteArray := prog_3_method_10_code
def yX1_namedKind : MethodName := ⟨RX1, "namedKind", "()I"⟩
abbrev cX1_step : ByteArray := prog_3_method_11_code
def yX1_step : MethodName := ⟨RX1, "step", "()V"⟩
abbrev cX1_stepWord : ByteArray := prog_3_method_12_code
def yX1_stepWord : MethodName := ⟨RX1, "stepWord", "()V"⟩
abbrev cX1_stepNumber : ByteArray := prog_3_method_13_code
def yX1_stepNumber : MethodName := ⟨RX1, "stepNumber", "()V"⟩
abbrev cX1_isLetter : ByteArray := prog_3_method_14_code
def yX1_isLetter : MethodName := ⟨RX1, "isLetter", "(B)Z"⟩
abbrev cX1_isDigit : ByteArray := prog_3_method_15_code
def yX1_isDigit : MethodName := ⟨RX1, "isDigit", "(B)Z"⟩
def RX2 : String := "HangerRail$Sheet"
def TX2 : u_T := fun k => match k with
  | 0 => ("HangerRail$Sheet", "numbers", "[J", true)
  | 1 => ("HangerRail$Sheet", "bits", "I", false)
  | _ => ("HangerRail$Sheet", "size", "I", false)
def tyX2 : Nat → FieldType := fun k => match k with
  | 0 => .array .long
  | 1 => .int
  | _ => .int
abbrev wsX20 : List Cond := u_ws RX2 TX2 3
theorem nmX2 : ∀ a, a < 3 → ∀ b, b < 3 → a ≠ b → (TX2 a).2.1 ≠ (TX2 b).2.1 := by decide +kernel
theorem tyX2_ok : ∀ k, k < 3 → parseFieldDescriptor (TX2 k).2.2.1 = some (tyX2 k) := by decide +kernel
abbrev cX2_init : ByteArray := prog_4_method_1_code
def yX2_init : MethodName := ⟨RX2, "<init>", "()V"⟩
abbrev cX2_isMissing : ByteArray := prog_4_method_2_code
def yX2_isMissing : MethodName := ⟨RX2, "isMissing", "()Z"⟩
abbrev cX2_lay : ByteArray := prog_4_method_3_code
def yX2_lay : MethodName := ⟨RX2, "lay", "(II)V"⟩
abbrev cX2_put : ByteArray := prog_4_method_4_code
def yX2_put : MethodName := ⟨RX2, "put", "(IJ)V"⟩
abbrev cX2_hasRun : ByteArray := prog_4_method_5_code
def yX2_hasRun : MethodName := ⟨RX2, "hasRun", "(II)Z"⟩
def RX3 : String := "HangerRail$Tangle"
def TX3 : u_T := fun k => match k with
  | 0 => ("HangerRail$Tangle", "same", "[I", true)
  | 1 => ("HangerRail$Tangle", "other", "[I", true)
  | _ => ("HangerRail$Tangle", "near", "[I", true)
def tyX3 : Nat → FieldType := fun k => match k with
  | 0 => .array .int
  | 1 => .array .int
  | _ => .array .int
abbrev wsX30 : List Cond := u_ws RX3 TX3 3
theorem nmX3 : ∀ a, a < 3 → ∀ b, b < 3 → a ≠ b → (TX3 a).2.1 ≠ (TX3 b).2.1 := by decide +kernel
theorem tyX3_ok : ∀ k, k < 3 → parseFieldDescriptor (TX3 k).2.2.1 = some (tyX3 k) := by decide +kernel
abbrev cX3_init : ByteArray := prog_5_method_1_code
def yX3_init : MethodName := ⟨RX3, "<init>", "()V"⟩
abbrev cX3_look : ByteArray := prog_5_method_2_code
def yX3_look : MethodName := ⟨RX3, "look", "(LHangerRail$Rail;)V"⟩
abbrev cX3_nearFacing : ByteArray := prog_5_method_3_code
def yX3_nearFacing : MethodName := ⟨RX3, "nearFacing", "(II)I"⟩
abbrev cX3_pairs : ByteArray := prog_5_method_4_code
def yX3_pairs : MethodName := ⟨RX3, "pairs", "(I)I"⟩
abbrev cX3_all : ByteArray := prog_5_method_5_code
def yX3_all : MethodName := ⟨RX3, "all", "()I"⟩
abbrev cX3_coming : ByteArray := prog_5_method_6_code
def yX3_coming : MethodName := ⟨RX3, "coming", "(II)I"⟩
abbrev cX3_heapOf : ByteArray := prog_5_method_7_code
def yX3_heapOf : MethodName := ⟨RX3, "heapOf", "(I)I"⟩
abbrev cX3_leastCover : ByteArray := prog_5_method_8_code
def yX3_leastCover : MethodName := ⟨RX3, "leastCover", "()I"⟩
abbrev cX3_leastCover_ : ByteArray := prog_5_method_9_code
def yX3_leastCover_ : MethodName := ⟨RX3, "leastCover", "([IIII)I"⟩
def RX4 : String := "HangerRail$Tape"
def TX4 : u_T := fun k => match k with
  | 0 => ("HangerRail$Tape", "bytes", "[B", true)
  | _ => ("HangerRail$Tape", "length", "I", false)
def tyX4 : Nat → FieldType := fun k => match k with
  | 0 => .array .byte
  | _ => .int
abbrev wsX40 : List Cond := u_ws RX4 TX4 2
theorem nmX4 : ∀ a, a < 2 → ∀ b, b < 2 → a ≠ b → (TX4 a).2.1 ≠ (TX4 b).2.1 := by decide +kernel
theorem tyX4_ok : ∀ k, k < 2 → parseFieldDescriptor (TX4 k).2.2.1 = some (tyX4 k) := by decide +kernel
abbrev cX4_init : ByteArray := prog_6_method_1_code
def yX4_init : MethodName := ⟨RX4, "<init>", "()V"⟩
abbrev cX4_add : ByteArray := prog_6_method_2_code
def yX4_add : MethodName := ⟨RX4, "add", "(B)V"⟩
def RX5 : String := "HangerRail"
def TX5 : u_T := fun k => match k with
  | 0 => ("HangerRail", "state", "LHangerRail$Rail;", true)
  | 1 => ("HangerRail", "kept", "LHangerRail$Rail;", true)
  | 2 => ("HangerRail", "draft", "LHangerRail$Rail;", true)
  | 3 => ("HangerRail", "tangle", "LHangerRail$Tangle;", true)
  | 4 => ("HangerRail", "tape", "LHangerRail$Tape;", true)
  | 5 => ("HangerRail", "reader", "LHangerRail$Reader;", true)
  | 6 => ("HangerRail", "sheets", "[LHangerRail$Sheet;", true)
  | 7 => ("HangerRail", "findings", "[I", true)
  | _ => ("HangerRail", "imageKept", "Z", false)
def tyX5 : Nat → FieldType := fun k => match k with
  | 0 => .object "HangerRail$Rail"
  | 1 => .object "HangerRail$Rail"
  | 2 => .object "HangerRail$Rail"
  | 3 => .object "HangerRail$Tangle"
  | 4 => .object "HangerRail$Tape"
  | 5 => .object "HangerRail$Reader"
  | 6 => .array (.object "HangerRail$Sheet")
  | 7 => .array .int
  | _ => .boolean
abbrev wsX50 : List Cond := u_ws RX5 TX5 9
theorem nmX5 : ∀ a, a < 9 → ∀ b, b < 9 → a ≠ b → (TX5 a).2.1 ≠ (TX5 b).2.1 := by decide +kernel
theorem tyX5_ok : ∀ k, k < 9 → parseFieldDescriptor (TX5 k).2.2.1 = some (tyX5 k) := by decide +kernel
abbrev cX5_init : ByteArray := prog_1_method_1_code
def yX5_init : MethodName := ⟨RX5, "<init>", "()V"⟩
abbrev cX5_hanger : ByteArray := prog_1_method_2_code
def yX5_hanger : MethodName := ⟨RX5, "hanger", "(I)I"⟩
abbrev cX5_of : ByteArray := prog_1_method_3_code
def yX5_of : MethodName := ⟨RX5, "of", "(II)I"⟩
abbrev cX5_set : ByteArray := prog_1_method_4_code
def yX5_set : MethodName := ⟨RX5, "set", "(III)I"⟩
abbrev cX5_turn : ByteArray := prog_1_method_5_code
def yX5_turn : MethodName := ⟨RX5, "turn", "(II)I"⟩
abbrev cX5_as : ByteArray := prog_1_method_6_code
def yX5_as : MethodName := ⟨RX5, "as", "(II)I"⟩
abbrev cX5_price : ByteArray := prog_1_method_7_code
def yX5_price : MethodName := ⟨RX5, "price", "(I)I"⟩
abbrev cX5_at : ByteArray := prog_1_method_8_code
def yX5_at : MethodName := ⟨RX5, "at", "(I)I"⟩
abbrev cX5_hang : ByteArray := prog_1_method_9_code
def yX5_hang : MethodName := ⟨RX5, "hang", "(II)I"⟩
abbrev cX5_face : ByteArray := prog_1_method_10_code
def yX5_face : MethodName := ⟨RX5, "face", "(I)I"⟩
abbrev cX5_shift : ByteArray := prog_1_method_11_code
def yX5_shift : MethodName := ⟨RX5, "shift", "(II)I"⟩
abbrev cX5_take : ByteArray := prog_1_method_12_code
def yX5_take : MethodName := ⟨RX5, "take", "(II)I"⟩
abbrev cX5_now : ByteArray := prog_1_method_13_code
def yX5_now : MethodName := ⟨RX5, "now", "(I)I"⟩
abbrev cX5_tangled : ByteArray := prog_1_method_14_code
def yX5_tangled : MethodName := ⟨RX5, "tangled", "(I)I"⟩
abbrev cX5_catches : ByteArray := prog_1_method_15_code
def yX5_catches : MethodName := ⟨RX5, "catches", "(II)I"⟩
abbrev cX5_comes : ByteArray := prog_1_method_16_code
def yX5_comes : MethodName := ⟨RX5, "comes", "(II)I"⟩
abbrev cX5_falls : ByteArray := prog_1_method_17_code
def yX5_falls : MethodName := ⟨RX5, "falls", "(II)I"⟩
abbrev cX5_heaps : ByteArray := prog_1_method_18_code
def yX5_heaps : MethodName := ⟨RX5, "heaps", "()I"⟩
abbrev cX5_greatest : ByteArray := prog_1_method_19_code
def yX5_greatest : MethodName := ⟨RX5, "greatest", "()I"⟩
abbrev cX5_manner : ByteArray := prog_1_method_20_code
def yX5_manner : MethodName := ⟨RX5, "manner", "(I)I"⟩
abbrev cX5_first : ByteArray := prog_1_method_21_code
def yX5_first : MethodName := ⟨RX5, "first", "()I"⟩
abbrev cX5_spot : ByteArray := prog_1_method_22_code
def yX5_spot : MethodName := ⟨RX5, "spot", "(I)I"⟩
abbrev cX5_facing : ByteArray := prog_1_method_23_code
def yX5_facing : MethodName := ⟨RX5, "facing", "()I"⟩
abbrev cX5_clears : ByteArray := prog_1_method_24_code
def yX5_clears : MethodName := ⟨RX5, "clears", "(I)I"⟩
abbrev cX5_untangle : ByteArray := prog_1_method_25_code
def yX5_untangle : MethodName := ⟨RX5, "untangle", "()I"⟩
abbrev cX5_saves : ByteArray := prog_1_method_26_code
def yX5_saves : MethodName := ⟨RX5, "saves", "()I"⟩
abbrev cX5_feels : ByteArray := prog_1_method_27_code
def yX5_feels : MethodName := ⟨RX5, "feels", "(I)I"⟩
abbrev cX5_kind : ByteArray := prog_1_method_28_code
def yX5_kind : MethodName := ⟨RX5, "kind", "(I)I"⟩
abbrev cX5_feed : ByteArray := prog_1_method_29_code
def yX5_feed : MethodName := ⟨RX5, "feed", "(II)I"⟩
abbrev cX5_wipe : ByteArray := prog_1_method_30_code
def yX5_wipe : MethodName := ⟨RX5, "wipe", "()I"⟩
abbrev cX5_rail : ByteArray := prog_1_method_31_code
def yX5_rail : MethodName := ⟨RX5, "rail", "()I"⟩
abbrev cX5_sheet : ByteArray := prog_1_method_32_code
def yX5_sheet : MethodName := ⟨RX5, "sheet", "(III)I"⟩
abbrev cX5_write : ByteArray := prog_1_method_33_code
def yX5_write : MethodName := ⟨RX5, "write", "(IIJ)J"⟩
abbrev cX5_copy : ByteArray := prog_1_method_34_code
def yX5_copy : MethodName := ⟨RX5, "copy", "(IIIII)I"⟩
abbrev cX5_lays : ByteArray := prog_1_method_35_code
def yX5_lays : MethodName := ⟨RX5, "lays", "(I)I"⟩
abbrev cX5_book : ByteArray := prog_1_method_36_code
def yX5_book : MethodName := ⟨RX5, "book", "(I)I"⟩
abbrev cX5_read : ByteArray := prog_1_method_37_code
def yX5_read : MethodName := ⟨RX5, "read", "(I)I"⟩
abbrev cX5_image : ByteArray := prog_1_method_38_code
def yX5_image : MethodName := ⟨RX5, "image", "()I"⟩
abbrev cX5_undo : ByteArray := prog_1_method_39_code
def yX5_undo : MethodName := ⟨RX5, "undo", "()I"⟩
abbrev cX5_tear : ByteArray := prog_1_method_40_code
def yX5_tear : MethodName := ⟨RX5, "tear", "()I"⟩
abbrev cX5_count : ByteArray := prog_1_method_41_code
def yX5_count : MethodName := ⟨RX5, "count", "(I)I"⟩
abbrev cX5_status : ByteArray := prog_1_method_42_code
def yX5_status : MethodName := ⟨RX5, "status", "(I)I"⟩
abbrev cX5_told : ByteArray := prog_1_method_43_code
def yX5_told : MethodName := ⟨RX5, "told", "(I)I"⟩
abbrev cX5_findingAgainstTaking : ByteArray := prog_1_method_44_code
def yX5_findingAgainstTaking : MethodName := ⟨RX5, "findingAgainstTaking", "(II)I"⟩
abbrev cX5_findingAgainstSheet : ByteArray := prog_1_method_45_code
def yX5_findingAgainstSheet : MethodName := ⟨RX5, "findingAgainstSheet", "(I)I"⟩
abbrev cX5_howManyFall : ByteArray := prog_1_method_46_code
def yX5_howManyFall : MethodName := ⟨RX5, "howManyFall", "(II)I"⟩
abbrev cX5_harm : ByteArray := prog_1_method_47_code
def yX5_harm : MethodName := ⟨RX5, "harm", "(II)I"⟩
abbrev cX5_betterFacing : ByteArray := prog_1_method_48_code
def yX5_betterFacing : MethodName := ⟨RX5, "betterFacing", "(II)I"⟩
abbrev cX5_isPlace : ByteArray := prog_1_method_49_code
def yX5_isPlace : MethodName := ⟨RX5, "isPlace", "(I)Z"⟩
abbrev cX5_isSheet : ByteArray := prog_1_method_50_code
def yX5_isSheet : MethodName := ⟨RX5, "isSheet", "(I)Z"⟩
abbrev cX5_contains : ByteArray := prog_1_method_51_code
def yX5_contains : MethodName := ⟨RX5, "contains", "(II)Z"⟩
abbrev cX5_isKind : ByteArray := prog_1_method_52_code
def yX5_isKind : MethodName := ⟨RX5, "isKind", "(I)Z"⟩
abbrev cX5_above : ByteArray := prog_1_method_53_code
def yX5_above : MethodName := ⟨RX5, "above", "(I)I"⟩
abbrev cX5_isUnder : ByteArray := prog_1_method_54_code
def yX5_isUnder : MethodName := ⟨RX5, "isUnder", "(II)Z"⟩
abbrev cX5_isCatch : ByteArray := prog_1_method_55_code
def yX5_isCatch : MethodName := ⟨RX5, "isCatch", "(IIZZ)Z"⟩
abbrev cX5_holds : ByteArray := prog_1_method_56_code
def yX5_holds : MethodName := ⟨RX5, "holds", "(I)I"⟩
abbrev cX5_need : ByteArray := prog_1_method_57_code
def yX5_need : MethodName := ⟨RX5, "need", "(I)I"⟩
abbrev cX5_kindName : ByteArray := prog_1_method_58_code
def yX5_kindName : MethodName := ⟨RX5, "kindName", "(I)Ljava/lang/String;"⟩
def RX6 : String := "HangerRailModel"
def TX6 : u_T := fun k => match k with
  | 0 => ("HangerRailModel", "s", "[I", true)
  | 1 => ("HangerRailModel", "keptS", "[I", true)
  | 2 => ("HangerRailModel", "other", "[I", true)
  | 3 => ("HangerRailModel", "aside", "[I", true)
  | 4 => ("HangerRailModel", "statuses", "[I", true)
  | 5 => ("HangerRailModel", "isKept", "Z", false)
  | 6 => ("HangerRailModel", "heapsMany", "I", false)
  | 7 => ("HangerRailModel", "heapMost", "I", false)
  | 8 => ("HangerRailModel", "with", "[I", true)
  | 9 => ("HangerRailModel", "tape", "[I", true)
  | 10 => ("HangerRailModel", "taped", "I", false)
  | 11 => ("HangerRailModel", "from", "I", false)
  | 12 => ("HangerRailModel", "to", "I", false)
  | 13 => ("HangerRailModel", "value", "I", false)
  | 14 => ("HangerRailModel", "isWrong", "Z", false)
  | 15 => ("HangerRailModel", "bitsOf", "[I", true)
  | 16 => ("HangerRailModel", "sizeOf", "[I", true)
  | 17 => ("HangerRailModel", "numbers", "[J", true)
  | _ => ("HangerRailModel", "moved", "[J", true)
def tyX6 : Nat → FieldType := fun k => match k with
  | 0 => .array .int
  | 1 => .array .int
  | 2 => .array .int
  | 3 => .array .int
  | 4 => .array .int
  | 5 => .boolean
  | 6 => .int
  | 7 => .int
  | 8 => .array .int
  | 9 => .array .int
  | 10 => .int
  | 11 => .int
  | 12 => .int
  | 13 => .int
  | 14 => .boolean
  | 15 => .array .int
  | 16 => .array .int
  | 17 => .array .long
  | _ => .array .long
abbrev wsX60 : List Cond := u_ws RX6 TX6 19
theorem nmX6 : ∀ a, a < 19 → ∀ b, b < 19 → a ≠ b → (TX6 a).2.1 ≠ (TX6 b).2.1 := by decide +kernel
theorem tyX6_ok : ∀ k, k < 19 → parseFieldDescriptor (TX6 k).2.2.1 = some (tyX6 k) := by decide +kernel
abbrev cX6_init : ByteArray := prog_8_method_1_code
def yX6_init : MethodName := ⟨RX6, "<init>", "()V"⟩
abbrev cX6_in : ByteArray := prog_8_method_2_code
def yX6_in : MethodName := ⟨RX6, "in", "(JJJ)Z"⟩
abbrev cX6_finds : ByteArray := prog_8_method_3_code
def yX6_finds : MethodName := ⟨RX6, "finds", "(I)I"⟩
abbrev cX6_keepsAside : ByteArray := prog_8_method_4_code
def yX6_keepsAside : MethodName := ⟨RX6, "keepsAside", "()V"⟩
abbrev cX6_putsBack : ByteArray := prog_8_method_5_code
def yX6_putsBack : MethodName := ⟨RX6, "putsBack", "()V"⟩
abbrev cX6_laysAside : ByteArray := prog_8_method_6_code
def yX6_laysAside : MethodName := ⟨RX6, "laysAside", "()V"⟩
abbrev cX6_takesBack : ByteArray := prog_8_method_7_code
def yX6_takesBack : MethodName := ⟨RX6, "takesBack", "(I)I"⟩
abbrev cX6_becomes : ByteArray := prog_8_method_8_code
def yX6_becomes : MethodName := ⟨RX6, "becomes", "(II)I"⟩
abbrev cX6_isPlace : ByteArray := prog_8_method_9_code
def yX6_isPlace : MethodName := ⟨RX6, "isPlace", "(I)Z"⟩
abbrev cX6_isHanger : ByteArray := prog_8_method_10_code
def yX6_isHanger : MethodName := ⟨RX6, "isHanger", "(I)Z"⟩
abbrev cX6_isKind : ByteArray := prog_8_method_11_code
def yX6_isKind : MethodName := ⟨RX6, "isKind", "(I)Z"⟩
abbrev cX6_spotOf : ByteArray := prog_8_method_12_code
def yX6_spotOf : MethodName := ⟨RX6, "spotOf", "(II)I"⟩
abbrev cX6_its : ByteArray := prog_8_method_13_code
def yX6_its : MethodName := ⟨RX6, "its", "(II)I"⟩
abbrev cX6_isOn : ByteArray := prog_8_method_14_code
def yX6_isOn : MethodName := ⟨RX6, "isOn", "(I)Z"⟩
abbrev cX6_adds : ByteArray := prog_8_method_15_code
def yX6_adds : MethodName := ⟨RX6, "adds", "(I)I"⟩
abbrev cX6_hanger : ByteArray := prog_8_method_16_code
def yX6_hanger : MethodName := ⟨RX6, "hanger", "(I)I"⟩
abbrev cX6_holds : ByteArray := prog_8_method_17_code
def yX6_holds : MethodName := ⟨RX6, "holds", "(I)I"⟩
abbrev cX6_needs : ByteArray := prog_8_method_18_code
def yX6_needs : MethodName := ⟨RX6, "needs", "(I)I"⟩
abbrev cX6_of : ByteArray := prog_8_method_19_code
def yX6_of : MethodName := ⟨RX6, "of", "(II)I"⟩
abbrev cX6_set : ByteArray := prog_8_method_20_code
def yX6_set : MethodName := ⟨RX6, "set", "(III)I"⟩
abbrev cX6_turn : ByteArray := prog_8_method_21_code
def yX6_turn : MethodName := ⟨RX6, "turn", "(II)I"⟩
abbrev cX6_isUnder : ByteArray := prog_8_method_22_code
def yX6_isUnder : MethodName := ⟨RX6, "isUnder", "(II)Z"⟩
abbrev cX6_as : ByteArray := prog_8_method_23_code
def yX6_as : MethodName := ⟨RX6, "as", "(II)I"⟩
abbrev cX6_price : ByteArray := prog_8_method_24_code
def yX6_price : MethodName := ⟨RX6, "price", "(I)I"⟩
abbrev cX6_who : ByteArray := prog_8_method_25_code
def yX6_who : MethodName := ⟨RX6, "who", "(I)I"⟩
abbrev cX6_isFree : ByteArray := prog_8_method_26_code
def yX6_isFree : MethodName := ⟨RX6, "isFree", "(I)Z"⟩
abbrev cX6_at : ByteArray := prog_8_method_27_code
def yX6_at : MethodName := ⟨RX6, "at", "(I)I"⟩
abbrev cX6_moved : ByteArray := prog_8_method_28_code
def yX6_moved : MethodName := ⟨RX6, "moved", "()V"⟩
abbrev cX6_ones : ByteArray := prog_8_method_29_code
def yX6_ones : MethodName := ⟨RX6, "ones", "(I)I"⟩
abbrev cX6_onRail : ByteArray := prog_8_method_30_code
def yX6_onRail : MethodName := ⟨RX6, "onRail", "()I"⟩
abbrev cX6_hangs : ByteArray := prog_8_method_31_code
def yX6_hangs : MethodName := ⟨RX6, "hangs", "(II)V"⟩
abbrev cX6_hang : ByteArray := prog_8_method_32_code
def yX6_hang : MethodName := ⟨RX6, "hang", "(II)I"⟩
abbrev cX6_face : ByteArray := prog_8_method_33_code
def yX6_face : MethodName := ⟨RX6, "face", "(I)I"⟩
abbrev cX6_shift : ByteArray := prog_8_method_34_code
def yX6_shift : MethodName := ⟨RX6, "shift", "(II)I"⟩
abbrev cX6_isCaught : ByteArray := prog_8_method_35_code
def yX6_isCaught : MethodName := ⟨RX6, "isCaught", "(II)Z"⟩
abbrev cX6_areTangled : ByteArray := prog_8_method_36_code
def yX6_areTangled : MethodName := ⟨RX6, "areTangled", "(II)Z"⟩
abbrev cX6_tangledWith : ByteArray := prog_8_method_37_code
def yX6_tangledWith : MethodName := ⟨RX6, "tangledWith", "(I)I"⟩
abbrev cX6_heapOf : ByteArray := prog_8_method_38_code
def yX6_heapOf : MethodName := ⟨RX6, "heapOf", "(I)I"⟩
abbrev cX6_comesBy : ByteArray := prog_8_method_39_code
def yX6_comesBy : MethodName := ⟨RX6, "comesBy", "(II)I"⟩
abbrev cX6_mayTake : ByteArray := prog_8_method_40_code
def yX6_mayTake : MethodName := ⟨RX6, "mayTake", "(II)Z"⟩
abbrev cX6_fallers : ByteArray := prog_8_method_41_code
def yX6_fallers : MethodName := ⟨RX6, "fallers", "(II)I"⟩
abbrev cX6_isManner : ByteArray := prog_8_method_42_code
def yX6_isManner : MethodName := ⟨RX6, "isManner", "(I)Z"⟩
abbrev cX6_wrongTaking : ByteArray := prog_8_method_43_code
def yX6_wrongTaking : MethodName := ⟨RX6, "wrongTaking", "(II)I"⟩
abbrev cX6_takes : ByteArray := prog_8_method_44_code
def yX6_takes : MethodName := ⟨RX6, "takes", "(II)I"⟩
abbrev cX6_take : ByteArray := prog_8_method_45_code
def yX6_take : MethodName := ⟨RX6, "take", "(II)I"⟩
abbrev cX6_pairs : ByteArray := prog_8_method_46_code
def yX6_pairs : MethodName := ⟨RX6, "pairs", "()I"⟩
abbrev cX6_shirts : ByteArray := prog_8_method_47_code
def yX6_shirts : MethodName := ⟨RX6, "shirts", "()I"⟩
abbrev cX6_together : ByteArray := prog_8_method_48_code
def yX6_together : MethodName := ⟨RX6, "together", "(I)I"⟩
abbrev cX6_now : ByteArray := prog_8_method_49_code
def yX6_now : MethodName := ⟨RX6, "now", "(I)I"⟩
abbrev cX6_tangled : ByteArray := prog_8_method_50_code
def yX6_tangled : MethodName := ⟨RX6, "tangled", "(I)I"⟩
abbrev cX6_catches : ByteArray := prog_8_method_51_code
def yX6_catches : MethodName := ⟨RX6, "catches", "(II)I"⟩
abbrev cX6_comes : ByteArray := prog_8_method_52_code
def yX6_comes : MethodName := ⟨RX6, "comes", "(II)I"⟩
abbrev cX6_falls : ByteArray := prog_8_method_53_code
def yX6_falls : MethodName := ⟨RX6, "falls", "(II)I"⟩
abbrev cX6_findHeaps : ByteArray := prog_8_method_54_code
def yX6_findHeaps : MethodName := ⟨RX6, "findHeaps", "()V"⟩
abbrev cX6_heaps : ByteArray := prog_8_method_55_code
def yX6_heaps : MethodName := ⟨RX6, "heaps", "()I"⟩
abbrev cX6_greatest : ByteArray := prog_8_method_56_code
def yX6_greatest : MethodName := ⟨RX6, "greatest", "()I"⟩
abbrev cX6_manner : ByteArray := prog_8_method_57_code
def yX6_manner : MethodName := ⟨RX6, "manner", "(I)I"⟩
abbrev cX6_first : ByteArray := prog_8_method_58_code
def yX6_first : MethodName := ⟨RX6, "first", "()I"⟩
abbrev cX6_spot : ByteArray := prog_8_method_59_code
def yX6_spot : MethodName := ⟨RX6, "spot", "(I)I"⟩
abbrev cX6_facesAll : ByteArray := prog_8_method_60_code
def yX6_facesAll : MethodName := ⟨RX6, "facesAll", "(I)V"⟩
abbrev cX6_facing : ByteArray := prog_8_method_61_code
def yX6_facing : MethodName := ⟨RX6, "facing", "()I"⟩
abbrev cX6_clears : ByteArray := prog_8_method_62_code
def yX6_clears : MethodName := ⟨RX6, "clears", "(I)I"⟩
abbrev cX6_isUntangled : ByteArray := prog_8_method_63_code
def yX6_isUntangled : MethodName := ⟨RX6, "isUntangled", "(I)Z"⟩
abbrev cX6_fewestAway : ByteArray := prog_8_method_64_code
def yX6_fewestAway : MethodName := ⟨RX6, "fewestAway", "()I"⟩
abbrev cX6_untangle : ByteArray := prog_8_method_65_code
def yX6_untangle : MethodName := ⟨RX6, "untangle", "()I"⟩
abbrev cX6_saves : ByteArray := prog_8_method_66_code
def yX6_saves : MethodName := ⟨RX6, "saves", "()I"⟩
abbrev cX6_feels : ByteArray := prog_8_method_67_code
def yX6_feels : MethodName := ⟨RX6, "feels", "(I)I"⟩
abbrev cX6_kind : ByteArray := prog_8_method_68_code
def yX6_kind : MethodName := ⟨RX6, "kind", "(I)I"⟩
abbrev cX6_feed : ByteArray := prog_8_method_69_code
def yX6_feed : MethodName := ⟨RX6, "feed", "(II)I"⟩
abbrev cX6_wipe : ByteArray := prog_8_method_70_code
def yX6_wipe : MethodName := ⟨RX6, "wipe", "()I"⟩
abbrev cX6_byteAt : ByteArray := prog_8_method_71_code
def yX6_byteAt : MethodName := ⟨RX6, "byteAt", "(I)I"⟩
abbrev cX6_isLetter : ByteArray := prog_8_method_72_code
def yX6_isLetter : MethodName := ⟨RX6, "isLetter", "(I)Z"⟩
abbrev cX6_isDigit : ByteArray := prog_8_method_73_code
def yX6_isDigit : MethodName := ⟨RX6, "isDigit", "(I)Z"⟩
abbrev cX6_token : ByteArray := prog_8_method_74_code
def yX6_token : MethodName := ⟨RX6, "token", "()V"⟩
abbrev cX6_must : ByteArray := prog_8_method_75_code
def yX6_must : MethodName := ⟨RX6, "must", "(Z)V"⟩
abbrev cX6_word : ByteArray := prog_8_method_76_code
def yX6_word : MethodName := ⟨RX6, "word", "()J"⟩
abbrev cX6_number : ByteArray := prog_8_method_77_code
def yX6_number : MethodName := ⟨RX6, "number", "(II)V"⟩
abbrev cX6_kindHere : ByteArray := prog_8_method_78_code
def yX6_kindHere : MethodName := ⟨RX6, "kindHere", "()I"⟩
abbrev cX6_atItem : ByteArray := prog_8_method_79_code
def yX6_atItem : MethodName := ⟨RX6, "atItem", "(I)V"⟩
abbrev cX6_numberHere : ByteArray := prog_8_method_80_code
def yX6_numberHere : MethodName := ⟨RX6, "numberHere", "()I"⟩
abbrev cX6_hangerItem : ByteArray := prog_8_method_81_code
def yX6_hangerItem : MethodName := ⟨RX6, "hangerItem", "(I)V"⟩
abbrev cX6_item : ByteArray := prog_8_method_82_code
def yX6_item : MethodName := ⟨RX6, "item", "()V"⟩
abbrev cX6_rail : ByteArray := prog_8_method_83_code
def yX6_rail : MethodName := ⟨RX6, "rail", "()I"⟩
abbrev cX6_isOne : ByteArray := prog_8_method_84_code
def yX6_isOne : MethodName := ⟨RX6, "isOne", "(I)Z"⟩
abbrev cX6_sheet : ByteArray := prog_8_method_85_code
def yX6_sheet : MethodName := ⟨RX6, "sheet", "(III)I"⟩
abbrev cX6_narrowed : ByteArray := prog_8_method_86_code
def yX6_narrowed : MethodName := ⟨RX6, "narrowed", "(IJ)J"⟩
abbrev cX6_wrongSheet : ByteArray := prog_8_method_87_code
def yX6_wrongSheet : MethodName := ⟨RX6, "wrongSheet", "(I)I"⟩
abbrev cX6_write : ByteArray := prog_8_method_88_code
def yX6_write : MethodName := ⟨RX6, "write", "(IIJ)J"⟩
abbrev cX6_copy : ByteArray := prog_8_method_89_code
def yX6_copy : MethodName := ⟨RX6, "copy", "(IIIII)I"⟩
abbrev cX6_lays : ByteArray := prog_8_method_90_code
def yX6_lays : MethodName := ⟨RX6, "lays", "(I)I"⟩
abbrev cX6_book : ByteArray := prog_8_method_91_code
def yX6_book : MethodName := ⟨RX6, "book", "(I)I"⟩
abbrev cX6_read : ByteArray := prog_8_method_92_code
def yX6_read : MethodName := ⟨RX6, "read", "(I)I"⟩
abbrev cX6_image : ByteArray := prog_8_method_93_code
def yX6_image : MethodName := ⟨RX6, "image", "()I"⟩
abbrev cX6_undo : ByteArray := prog_8_method_94_code
def yX6_undo : MethodName := ⟨RX6, "undo", "()I"⟩
abbrev cX6_tear : ByteArray := prog_8_method_95_code
def yX6_tear : MethodName := ⟨RX6, "tear", "()I"⟩
abbrev cX6_count : ByteArray := prog_8_method_96_code
def yX6_count : MethodName := ⟨RX6, "count", "(I)I"⟩
abbrev cX6_status : ByteArray := prog_8_method_97_code
def yX6_status : MethodName := ⟨RX6, "status", "(I)I"⟩
def RJ6 : String := "java/lang/Integer"
def TJ6 : u_T := fun k => match k with
  | _ => ("", "", "", false)
def tyJ6 : Nat → FieldType := fun k => match k with
  | _ => .int
abbrev wsJ60 : List Cond := u_ws RJ6 TJ6 0
theorem nmJ6 : ∀ a, a < 0 → ∀ b, b < 0 → a ≠ b → (TJ6 a).2.1 ≠ (TJ6 b).2.1 := by decide +kernel
theorem tyJ6_ok : ∀ k, k < 0 → parseFieldDescriptor (TJ6 k).2.2.1 = some (tyJ6 k) := by decide +kernel
abbrev cJ6_bitCount_0f7a4 : ByteArray := prog_9_method_49_code
def yJ6_bitCount_0f7a4 : MethodName := ⟨RJ6, "bitCount", "(I)I"⟩
def RJ9 : String := "java/lang/Math"
def TJ9 : u_T := fun k => match k with
  | _ => ("", "", "", false)
def tyJ9 : Nat → FieldType := fun k => match k with
  | _ => .int
abbrev wsJ90 : List Cond := u_ws RJ9 TJ9 0
theorem nmJ9 : ∀ a, a < 0 → ∀ b, b < 0 → a ≠ b → (TJ9 a).2.1 ≠ (TJ9 b).2.1 := by decide +kernel
theorem tyJ9_ok : ∀ k, k < 0 → parseFieldDescriptor (TJ9 k).2.2.1 = some (tyJ9 k) := by decide +kernel
abbrev cJ9_abs_0f7a4 : ByteArray := prog_10_method_59_code
def yJ9_abs_0f7a4 : MethodName := ⟨RJ9, "abs", "(I)I"⟩
abbrev cJ9_max_7cf53 : ByteArray := prog_10_method_65_code
def yJ9_max_7cf53 : MethodName := ⟨RJ9, "max", "(II)I"⟩
abbrev cJ9_min_7cf53 : ByteArray := prog_10_method_69_code
def yJ9_min_7cf53 : MethodName := ⟨RJ9, "min", "(II)I"⟩
def RJ0 : String := "java/lang/String"
def TJ0 : u_T := fun k => match k with
  | _ => ("", "", "", false)
def tyJ0 : Nat → FieldType := fun k => match k with
  | _ => .int
abbrev wsJ00 : List Cond := u_ws RJ0 TJ0 0
theorem nmJ0 : ∀ a, a < 0 → ∀ b, b < 0 → a ≠ b → (TJ0 a).2.1 ≠ (TJ0 b).2.1 := by decide +kernel
theorem tyJ0_ok : ∀ k, k < 0 → parseFieldDescriptor (TJ0 k).2.2.1 = some (tyJ0 k) := by decide +kernel
abbrev cJ0_length_8abf5 : ByteArray := prog_11_method_54_code
def yJ0_length_8abf5 : MethodName := ⟨RJ0, "length", "()I"⟩
abbrev cJ0_charAt_5068e : ByteArray := prog_11_method_56_code
def yJ0_charAt_5068e : MethodName := ⟨RJ0, "charAt", "(I)C"⟩
abbrev cJ0_coder_7d493 : ByteArray := prog_11_method_152_code
def yJ0_coder_7d493 : MethodName := ⟨RJ0, "coder", "()B"⟩
abbrev cJ0_isLatin1_aae02 : ByteArray := prog_11_method_154_code
def yJ0_isLatin1_aae02 : MethodName := ⟨RJ0, "isLatin1", "()Z"⟩
abbrev cJ0_checkIndex_df160 : ByteArray := prog_11_method_155_code
def yJ0_checkIndex_df160 : MethodName := ⟨RJ0, "checkIndex", "(II)V"⟩
def RJ1 : String := "java/lang/StringLatin1"
def TJ1 : u_T := fun k => match k with
  | _ => ("", "", "", false)
def tyJ1 : Nat → FieldType := fun k => match k with
  | _ => .int
abbrev wsJ10 : List Cond := u_ws RJ1 TJ1 0
theorem nmJ1 : ∀ a, a < 0 → ∀ b, b < 0 → a ≠ b → (TJ1 a).2.1 ≠ (TJ1 b).2.1 := by decide +kernel
theorem tyJ1_ok : ∀ k, k < 0 → parseFieldDescriptor (TJ1 k).2.2.1 = some (tyJ1 k) := by decide +kernel
abbrev cJ1_charAt_3b067 : ByteArray := prog_12_method_2_code
def yJ1_charAt_3b067 : MethodName := ⟨RJ1, "charAt", "([BI)C"⟩
def RJ2 : String := "java/lang/StringUTF16"
def TJ2 : u_T := fun k => match k with
  | _ => ("", "", "", false)
def tyJ2 : Nat → FieldType := fun k => match k with
  | _ => .int
abbrev wsJ20 : List Cond := u_ws RJ2 TJ2 0
theorem nmJ2 : ∀ a, a < 0 → ∀ b, b < 0 → a ≠ b → (TJ2 a).2.1 ≠ (TJ2 b).2.1 := by decide +kernel
theorem tyJ2_ok : ∀ k, k < 0 → parseFieldDescriptor (TJ2 k).2.2.1 = some (tyJ2 k) := by decide +kernel
abbrev cJ2_getChar_3b067 : ByteArray := prog_13_method_5_code
def yJ2_getChar_3b067 : MethodName := ⟨RJ2, "getChar", "([BI)C"⟩
abbrev cJ2_length_9d52b : ByteArray := prog_13_method_6_code
def yJ2_length_9d52b : MethodName := ⟨RJ2, "length", "([B)I"⟩
abbrev cJ2_charAt_3b067 : ByteArray := prog_13_method_83_code
def yJ2_charAt_3b067 : MethodName := ⟨RJ2, "charAt", "([BI)C"⟩
abbrev cJ2_checkIndex_2214a : ByteArray := prog_13_method_91_code
def yJ2_checkIndex_2214a : MethodName := ⟨RJ2, "checkIndex", "(I[B)V"⟩
def RJ10 : String := "java/lang/System"
def TJ10 : u_T := fun k => match k with
  | _ => ("", "", "", false)
def tyJ10 : Nat → FieldType := fun k => match k with
  | _ => .int
abbrev wsJ100 : List Cond := u_ws RJ10 TJ10 0
theorem nmJ10 : ∀ a, a < 0 → ∀ b, b < 0 → a ≠ b → (TJ10 a).2.1 ≠ (TJ10 b).2.1 := by decide +kernel
theorem tyJ10_ok : ∀ k, k < 0 → parseFieldDescriptor (TJ10 k).2.2.1 = some (tyJ10 k) := by decide +kernel
def RJ3 : String := "jdk/internal/util/Preconditions"
def TJ3 : u_T := fun k => match k with
  | _ => ("", "", "", false)
def tyJ3 : Nat → FieldType := fun k => match k with
  | _ => .int
abbrev wsJ30 : List Cond := u_ws RJ3 TJ3 0
theorem nmJ3 : ∀ a, a < 0 → ∀ b, b < 0 → a ≠ b → (TJ3 a).2.1 ≠ (TJ3 b).2.1 := by decide +kernel
theorem tyJ3_ok : ∀ k, k < 0 → parseFieldDescriptor (TJ3 k).2.2.1 = some (tyJ3 k) := by decide +kernel
abbrev cJ3_checkIndex_8e157 : ByteArray := prog_15_method_11_code
def yJ3_checkIndex_8e157 : MethodName := ⟨RJ3, "checkIndex", "(IILjava/util/function/BiFunction;)I"⟩
def RL : String := "HangerRailLaw"
abbrev cL_law : ByteArray := code
def yL_law : MethodName := ⟨RL, "law", "([I)Z"⟩
abbrev vwCl : List vw_C := [(RX0, TX0, 9), (RX1, TX1, 5), (RX2, TX2, 3), (RX3, TX3, 3), (RX4, TX4, 2), (RX5, TX5, 9), (RX6, TX6, 19)]
end
section
/-! THE FRAME: one world of 48 cells (the class's 0 to 35, the reference's 36 to 47), a memory of numbers, a judgement 'Sim' that walks the bytecode beside a pure program -/
abbrev Mem : Type := (Nat → Nat → Int32) × (Nat → Nat → Int64)
def gI (M : Mem) (k i : Nat) : Int32 := M.1 k i
def gJ (M : Mem) (k i : Nat) : Int64 := M.2 k i
def sI (M : Mem) (k i : Nat) (v : Int32) : Mem := (fun c => if c = k then upd (M.1 c) i v else M.1 c, M.2)
def sJ (M : Mem) (k i : Nat) (v : Int64) : Mem := (M.1, fun c => if c = k then vp_updL (M.2 c) i v else M.2 c)
def rI (M : Mem) (k : Nat) (f : Nat → Int32) : Mem := (fun c => if c = k then f else M.1 c, M.2)
def rJ (M : Mem) (k : Nat) (f : Nat → Int64) : Mem := (M.1, fun c => if c = k then f else M.2 c)
/-- addresses of the cells; classes of the arrays; the tables' numbers; addresses of the text constants and of their bytes -/
abbrev Wx : Type := (Nat → Nat) × (Nat → ClassId) × va_G × (Nat → Nat) × (Nat → Nat)
def ceRail (w : Wx) (k : Nat) (f : Nat → Int32) : va_E := .inr (0, [.int (f 0), .int (f 1), .int (f 2), .int (f 3), .ref (w.1 (k + 1)), .ref (w.1 (k + 2)), .ref (w.1 (k + 3)), .ref (w.1 (k + 4)), .ref (w.1 (k + 5))])
def ceI (w : Wx) (n : Nat) (f : Nat → Int32) : va_E := .inl (w.2.1 1, n, .inl f)
def ceB (w : Wx) (n : Nat) (f : Nat → Int32) : va_E := .inl (w.2.1 0, n, .inl f)
def ceJ (w : Wx) (n : Nat) (g : Nat → Int64) : va_E := .inl (w.2.1 2, n, .inr (.inl g))
def ceSheet (w : Wx) (k : Nat) (f : Nat → Int32) : va_E := .inr (2, [.ref (w.1 (k + 1)), .int (f 1), .int (f 2)])
def shAd (w : Wx) (j : Nat) : Option Nat := some (w.1 (27 + 2 * j))
def ce (w : Wx) (k : Nat) (f : Nat → Int32) (g : Nat → Int64) : va_E := match k with
  | 0 => .inr (5, [.ref (w.1 1), .ref (w.1 7), .ref (w.1 13), .ref (w.1 19), .ref (w.1 23), .ref (w.1 25), .ref (w.1 26), .ref (w.1 35), .int (f 8)])
  | 1 => ceRail w 1 f
  | 2 => ceI w 12 f
  | 3 => ceI w 12 f
  | 4 => ceI w 12 f
  | 5 => ceI w 12 f
  | 6 => ceI w 24 f
  | 7 => ceRail w 7 f
  | 8 => ceI w 12 f
  | 9 => ceI w 12 f
  | 10 => ceI w 12 f
  | 11 => ceI w 12 f
  | 12 => ceI w 24 f
  | 13 => ceRail w 13 f
  | 14 => ceI w 12 f
  | 15 => ceI w 12 f
  | 16 => ceI w 12 f
  | 17 => ceI w 12 f
  | 18 => ceI w 24 f
  | 19 => .inr (3, [.ref (w.1 20), .ref (w.1 21), .ref (w.1 22)])
  | 20 => ceI w 12 f
  | 21 => ceI w 12 f
  | 22 => ceI w 12 f
  | 23 => .inr (4, [.ref (w.1 24), .int (f 1)])
  | 24 => ceB w 120 f
  | 25 => .inr (1, [.ref (w.1 23), .int (f 1), .int (f 2), .int (f 3), .int (f 4)])
  | 26 => .inl (w.2.1 3, 4, .inr (.inr (.inr (.inr (shAd w)))))
  | 27 => ceSheet w 27 f
  | 28 => ceJ w 40 g
  | 29 => ceSheet w 29 f
  | 30 => ceJ w 40 g
  | 31 => ceSheet w 31 f
  | 32 => ceJ w 40 g
  | 33 => ceSheet w 33 f
  | 34 => ceJ w 40 g
  | 35 => ceI w 7 f
  | 36 => .inr (6, [.ref (w.1 37), .ref (w.1 38), .ref (w.1 39), .ref (w.1 40), .ref (w.1 41), .int (f 5), .int (f 6), .int (f 7), .ref (w.1 42), .ref (w.1 43), .int (f 10), .int (f 11), .int (f 12), .int (f 13), .int (f 14), .ref (w.1 44), .ref (w.1 45), .ref (w.1 46), .ref (w.1 47)])
  | 37 => ceI w 63 f
  | 38 => ceI w 63 f
  | 39 => ceI w 63 f
  | 40 => ceI w 63 f
  | 41 => ceI w 7 f
  | 42 => ceI w 12 f
  | 43 => ceI w 120 f
  | 44 => ceI w 4 f
  | 45 => ceI w 4 f
  | 46 => ceJ w 160 g
  | _ => ceJ w 40 g
/-- the world: cells lo to hi - 1 hold M, the others O -/
def wd (w : Wx) (lo hi : Nat) (O M : Mem) : va_W := (List.range 48).map fun k => (w.1 k, ce w k (if lo ≤ k ∧ k < hi then M.1 k else O.1 k) (if lo ≤ k ∧ k < hi then M.2 k else O.2 k))
theorem wd_get (w : Wx) {lo hi : Nat} (O M : Mem) {k : Nat} (h : lo ≤ k ∧ k < hi) (h3 : hi ≤ 48) : (wd w lo hi O M)[k]? = some (w.1 k, ce w k (M.1 k) (M.2 k)) := by
  unfold wd
  rw [List.getElem?_map, List.getElem?_range (by omega)]
  simp only [Option.map_some, if_pos h]
theorem wd_getE (w : Wx) {lo hi : Nat} (O M : Mem) {k : Nat} {q : Nat × va_E} (h : (wd w lo hi O M)[k]? = some q) : k < 48 ∧ q.1 = w.1 k := by
  have hk : k < 48 := by
    have h1 := (List.getElem?_eq_some_iff.mp h).1
    simpa [wd] using h1
  refine ⟨hk, ?_⟩
  unfold wd at h
  rw [List.getElem?_map, List.getElem?_range hk] at h
  cases h
  rfl
theorem wd_set (w : Wx) {lo hi : Nat} (O M N : Mem) {k : Nat} (h : lo ≤ k ∧ k < hi) (h3 : hi ≤ 48) (e1 : ∀ c, c ≠ k → N.1 c = M.1 c) (e2 : ∀ c, c ≠ k → N.2 c = M.2 c) : (wd w lo hi O M).set k (w.1 k, ce w k (N.1 k) (N.2 k)) = wd w lo hi O N := by
  refine List.ext_getElem? fun j => ?_
  rw [List.getElem?_set]
  have hl : (wd w lo hi O M).length = 48 := by simp [wd]
  by_cases hj : k = j
  · subst hj
    rw [if_pos rfl, if_pos (by omega), wd_get w O N h h3]
  · rw [if_neg hj]
    unfold wd
    rw [List.getElem?_map, List.getElem?_map]
    by_cases hj4 : j < 48
    · rw [List.getElem?_range hj4]
      simp only [Option.map_some, e1 j (fun q => hj q.symm), e2 j (fun q => hj q.symm)]
    · rw [List.getElem?_eq_none (by simpa using hj4)]
      rfl
theorem wd_setI (w : Wx) {lo hi : Nat} (O M : Mem) {k : Nat} (h : lo ≤ k ∧ k < hi) (h3 : hi ≤ 48) (i : Nat) (v : Int32) : (wd w lo hi O M).set k (w.1 k, ce w k (upd (M.1 k) i v) (M.2 k)) = wd w lo hi O (sI M k i v) := by
  have h1 := wd_set w O M (sI M k i v) h h3 (fun c hc => by simp [sI, hc]) (fun c hc => rfl)
  rw [← h1]
  simp [sI]
theorem wd_setJ (w : Wx) {lo hi : Nat} (O M : Mem) {k : Nat} (h : lo ≤ k ∧ k < hi) (h3 : hi ≤ 48) (i : Nat) (v : Int64) : (wd w lo hi O M).set k (w.1 k, ce w k (M.1 k) (vp_updL (M.2 k) i v)) = wd w lo hi O (sJ M k i v) := by
  have h1 := wd_set w O M (sJ M k i v) h h3 (fun c hc => rfl) (fun c hc => by simp [sJ, hc])
  rw [← h1]
  simp [sJ]
theorem wd_setR (w : Wx) {lo hi : Nat} (O M : Mem) {k : Nat} (h : lo ≤ k ∧ k < hi) (h3 : hi ≤ 48) (f : Nat → Int32) : (wd w lo hi O M).set k (w.1 k, ce w k f (M.2 k)) = wd w lo hi O (rI M k f) := by
  have h1 := wd_set w O M (rI M k f) h h3 (fun c hc => by simp [rI, hc]) (fun c hc => rfl)
  rw [← h1]
  simp [rI]
theorem wd_setRJ (w : Wx) {lo hi : Nat} (O M : Mem) {k : Nat} (h : lo ≤ k ∧ k < hi) (h3 : hi ≤ 48) (f : Nat → Int64) : (wd w lo hi O M).set k (w.1 k, ce w k (M.1 k) f) = wd w lo hi O (rJ M k f) := by
  have h1 := wd_set w O M (rJ M k f) h h3 (fun c hc => rfl) (fun c hc => by simp [rJ, hc])
  rw [← h1]
  simp [rJ]
/-- class and reference side by side: either may be the one that is looked at -/
theorem wd_swap (w : Wx) (M N : Mem) : wd w 0 36 N M = wd w 36 48 M N := by
  unfold wd
  refine List.map_congr_left fun k hk => ?_
  have h48 : k < 48 := List.mem_range.mp hk
  by_cases h : k < 36
  · rw [if_pos ⟨Nat.zero_le _, h⟩, if_pos ⟨Nat.zero_le _, h⟩, if_neg (fun q => by omega), if_neg (fun q => by omega)]
  · rw [if_neg (fun q => h q.2), if_neg (fun q => h q.2), if_pos ⟨by omega, h48⟩, if_pos ⟨by omega, h48⟩]
def Aw (w : Wx) : Nat → Prop := fun q => ∃ k, k < 48 ∧ q = w.1 k
def Ap (w : Wx) : Prop := ∀ i j, i < 48 → j < 48 → w.1 i = w.1 j → i = j
theorem wd_D {w : Wx} (h : Ap w) (lo hi : Nat) (O M : Mem) : va_D (Aw w) (wd w lo hi O M) := by
  refine ⟨fun i j p q hp hq e => ?_, fun k q hq => ?_⟩
  · obtain ⟨h1, h2⟩ := wd_getE w O M hp
    obtain ⟨h3, h4⟩ := wd_getE w O M hq
    exact h i j h1 h3 (by rw [← h2, ← h4]; exact e)
  · obtain ⟨h1, h2⟩ := wd_getE w O M hq
    exact ⟨k, h1, h2⟩
abbrev tyW (w : Wx) : List (ClassId × FieldType) := [(w.2.1 0, .byte), (w.2.1 1, .int), (w.2.1 2, .long), (w.2.1 3, .object "HangerRail$Sheet")]
/-- links of nest mates -/
def nwL : List (String × Nat × MethodName) := [("HangerRail", 24, ⟨"HangerRail$Tangle", "<init>", "()V"⟩), ("HangerRail", 31, ⟨"HangerRail$Tape", "<init>", "()V"⟩), ("HangerRail", 55, ⟨"HangerRail$Sheet", "<init>", "()V"⟩), ("HangerRail$Rail", 46, ⟨"HangerRail", "isPlace", "(I)Z"⟩), ("HangerRail$Rail", 62, ⟨"HangerRail", "need", "(I)I"⟩), ("HangerRail$Rail", 86, ⟨"HangerRail", "isCatch", "(IIZZ)Z"⟩), ("HangerRail$Rail", 66, ⟨"HangerRail", "contains", "(II)Z"⟩), ("HangerRail$Tangle", 57, ⟨"HangerRail", "contains", "(II)Z"⟩), ("HangerRail$Rail", 70, ⟨"HangerRail", "holds", "(I)I"⟩), ("HangerRail$Reader", 113, ⟨"HangerRail", "kindName", "(I)Ljava/lang/String;"⟩)]
/-- the text constants: class, entry, text -/
def stL : List (String × Nat × String) := [("HangerRail", 284, "hanger"), ("HangerRail", 286, "wire"), ("HangerRail", 288, "wood"), ("HangerRail", 290, "bent"), ("HangerRail", 292, "strap"), ("HangerRail", 294, "bar"), ("HangerRail$Reader", 32, "price"), ("HangerRail$Reader", 73, "at"), ("HangerRail$Reader", 83, "back"), ("HangerRail$Reader", 87, "shirt"), ("HangerRail$Reader", 93, "feel")]
def stB : List (List Int32) := [[104, 97, 110, 103, 101, 114], [119, 105, 114, 101], [119, 111, 111, 100], [98, 101, 110, 116], [115, 116, 114, 97, 112], [98, 97, 114], [112, 114, 105, 99, 101], [97, 116], [98, 97, 99, 107], [115, 104, 105, 114, 116], [102, 101, 101, 108]]
def stN : List Nat := [6, 4, 4, 4, 5, 3, 5, 2, 4, 5, 4]
/-- what the tables say of the world's classes, links and texts -/
abbrev Kf (w : Wx) (U : State) : Prop := va_K w.2.2.1 vwCl (tyW w) U ∧ (∀ q ∈ nwL, va_Nw (.methodLinkNest q.1 q.2.1 q.2.2 "HangerRail") U) ∧ ∀ (i : Nat) (q : String × Nat × String), stL[i]? = some q → vk_R q.1 q.2.1 q.2.2 (w.2.2.2.1 i) U
/-- what lies outside the world and is read: the texts, two statics -/
abbrev Sx (w : Wx) (U : State) (H : Heap) : Prop := vk_S 11 stN stB w.2.2.2.1 w.2.2.2.2 (Aw w) U H ∧ va_Z "java/lang/String" "COMPACT_STRINGS" "Z" (.int 1) (Aw w) U H ∧ va_Zq "jdk/internal/util/Preconditions" "SIOOBE_FORMATTER" "Ljava/util/function/BiFunction;" (Aw w) U H
theorem Kf.same {w : Wx} {u U : State} (h : U.vm = u.vm) (k : Kf w u) : Kf w U := ⟨va_K.moved (by rw [h]; exact Vm.Alike.refl _) k.1, fun q hq => va_Nw.same rfl h.symm (k.2.1 q hq), fun i q hq => vk_R.same h (k.2.2 i q hq)⟩
theorem Kf.warm {w : Wx} {s U : State} (hW : s.WarmedH U.vm) (k : Kf w s) : Kf w U := ⟨va_K.moved hW.alike k.1, fun q hq => va_Nw.warmM hW (k.2.1 q hq), fun i q hq => vk_R.warm hW (k.2.2 i q hq)⟩
theorem Sx.moved {w : Wx} {u U : State} {H : Heap} (h : u.vm.Alike U.vm) (k : Sx w u H) : Sx w U H := ⟨k.1.moved h, k.2.1.moved h, k.2.2.moved h⟩
theorem Sx.kept {w : Wx} {U : State} {H H1 : Heap} (k : Sx w U H) (hq : ∀ a : Nat, a < H.size → ¬ Aw w a → H1[a]? = H[a]?) : Sx w U H1 := ⟨k.1.kept hq, k.2.1.kept hq, k.2.2.kept hq⟩
/-- room for d calls one in another -/
def rl (d : Nat) : Room := { frames := d, cells := 0, slots := 0, locals := 64 * d }
/-- a method: its name, code, locals, answer -/
abbrev Md : Type := MethodName × ByteArray × Nat × Option FieldType
def wsG : List Cond := lw_tbl.filter goodWord
def wsM (μ : Md) : List Cond := .code μ.1 μ.2.1 μ.2.2.1 μ.2.2.2 :: wsG
def PreM (w : Wx) (lo hi : Nat) (O : Mem) (as : List Value) (M : Mem) : Array Value → State → Prop := fun v U => v = as.toArray ∧ va_P w.2.2.1 vwCl (wd w lo hi O M) U.heap ∧ Kf w U ∧ Sx w U U.heap ∧ Ap w ∧ hi ≤ 48
def PostM (w : Wx) (lo hi : Nat) (O : Mem) (r : Option Value × Mem) : Array Value → State → Outcome → State → Prop := fun _ st oc t => oc = .returned r.1 ∧ va_P w.2.2.1 vwCl (wd w lo hi O r.2) t.heap ∧ va_F (Aw w) st t
/-- THE CONTRACT: from memory M with arguments as the method returns r.1, and the memory is r.2 -/
def Ct (w : Wx) (lo hi : Nat) (O : Mem) (l : Launch) (d : Nat) (μ : Md) (as : List Value) (M : Mem) (r : Option Value × Mem) : Prop := Met l μ.1 (wsM μ) (rl d) (PreM w lo hi O as M) (PostM w lo hi O r) 0 0 (Aw w)
theorem blind_PreM (w : Wx) (lo hi : Nat) (O : Mem) (as : List Value) (M : Mem) : FrameBlind (PreM w lo hi O as M) := by
  intro a U g mk q
  obtain ⟨q0, q1, q2, q3, q4, q5⟩ := q
  exact ⟨q0, q1, Kf.same (u := U) rfl q2, Sx.moved (u := U) (Vm.Alike.refl U.vm) q3, q4, q5⟩
/-- the locals of a frame, by their places -/
def lvH (ls : Array Slot) (nL : Nat) (lv : List (Option Value)) : Prop := ls.size = nL ∧ lv_wf ls ∧ ∀ (i : Nat) (v : Value), lv[i]? = some (some v) → ls[i]? = some (.val v)
/-- what stands fast while a method's body runs -/
abbrev Ok (p : Program) (s : State) (m : MethodId) (args : Array Value) (meth : Method) (c : Code) (w : Wx) (cc : ByteArray) (nL : Nat) (own : String) (ret : Option FieldType) (hi : Nat) (R : Room) (A : Nat → Prop) (cs sl D : Nat) : Prop :=
  p.tables.exec = Jvm.exec ∧ c.code = cc ∧ c.maxLocals = nL ∧ s.vm.findClass own = some m.cls ∧ (∀ x ∈ lw_tbl, goodWord x = true → x.before args s = true) ∧ Kf w s ∧ Sx w s s.heap ∧ Ap w ∧ meth.locks = false ∧ meth.sig.returnType = ret ∧ hi ≤ 48 ∧ (∀ q, Aw w q → A q) ∧ cs ≤ R.cells ∧ sl ≤ R.slots ∧ D ≤ R.frames ∧ 64 * D ≤ R.locals
/-- from here on the machine comes to Q -/
def AtP (p : Program) (l : Launch) (e : Env) (R : Room) (s : State) (m : MethodId) (args : Array Value) (below : List Frame) (meth : Method) (c : Code) (w : Wx) (lo hi : Nat) (O : Mem) (nL : Nat) (A : Nat → Prop) (cs sl : Nat) (Q : State → Prop) (pc : Nat) (lv : List (Option Value)) (st : List Value) (M : Mem) : Prop :=
  ∀ (H : Heap) (locs : List Loc) (ls : Array Slot), lvH ls nL lv → va_P w.2.2.1 vwCl (wd w lo hi O M) H → va_S A s.heap H locs → W p l e R s m args below meth c H locs cs sl Q (F0 m pc ls st)
end
section
/-! THE ROWS: a row an instruction; the pure program beside it -/
def bn {α β : Type} (x : α) (k : α → β) : β := k x
/-- a loop with fuel: each step goes on, or leaves -/
def lp {σ ε : Type} (f : σ → Option (σ ⊕ ε)) : Nat → σ → Option ε
  | 0, _ => none
  | n + 1, s => match f s with
    | none => none
    | some (.inl s') => lp f n s'
    | some (.inr x) => some x
def el {α β γ : Type} (f : α → γ) (g : β → γ) : α ⊕ β → γ
  | .inl a => f a
  | .inr b => g b
/-- a truth is 0 or 1 -/
abbrev zb (v : Int32) : Prop := v = 0 ∨ v = 1
/-- an index within -/
abbrev inR (i : Int32) (n : Nat) : Prop := ¬ i < 0 ∧ i.toNatClampNeg < n

def Sim (p : Program) (l : Launch) (e : Env) (R : Room) (s : State) (m : MethodId) (args : Array Value) (below : List Frame) (meth : Method) (c : Code) (w : Wx) (lo hi : Nat) (O : Mem) (nL : Nat) (A : Nat → Prop) (cs sl : Nat) (Q : State → Prop) {ρ α : Type} (r0 : ρ) (pc : Nat) (lv : List (Option Value)) (st : List Value) (M : Mem) (X : Option α) (K : α → Option ρ) : Prop :=
  X.bind K = some r0 → AtP p l e R s m args below meth c w lo hi O nL A cs sl Q pc lv st M
section SIM
variable {p : Program} {l : Launch} {e : Env} {R : Room} {s : State} {m : MethodId} {args : Array Value} {below : List Frame} {meth : Method} {c : Code} {w : Wx} {lo hi : Nat} {O : Mem} {nL : Nat} {A : Nat → Prop} {cs sl : Nat} {Q : State → Prop} {ρ α β σ ε : Type} {r0 : ρ} {cc : ByteArray} {own : String} {ret : Option FieldType} {D pc : Nat} {lv : List (Option Value)} {st : List Value} {M : Mem} {X : Option α} {K : α → Option ρ}

/-- may a value of one slot be stored at i? no long begins just ahead of it -/
def okS (lv : List (Option Value)) : Nat → Bool
  | 0 => true
  | i + 1 => match lv[i]? with
    | some (some v) => v.category != 2
    | _ => true
/-- the locals, as the kit lists them -/
def lvl : Nat → List (Option Value) → List (Nat × Value)
  | _, [] => []
  | k, none :: t => lvl (k + 1) t
  | k, some v :: t => (k, v) :: lvl (k + 1) t
theorem lvl_mem : ∀ (lv : List (Option Value)) (k : Nat) (q : Nat × Value), q ∈ lvl k lv ↔ ∃ i, q.1 = k + i ∧ lv[i]? = some (some q.2) := by
  intro lv
  induction lv with
  | nil => intro k q; simp [lvl]
  | cons x t ih =>
    intro k q
    cases x with
    | none =>
      rw [lvl, ih]
      constructor
      · rintro ⟨i, h1, h2⟩
        exact ⟨i + 1, by omega, by simpa using h2⟩
      · rintro ⟨i, h1, h2⟩
        cases i with
        | zero => simp at h2
        | succ i => exact ⟨i, by omega, by simpa using h2⟩
    | some v =>
      rw [lvl, List.mem_cons, ih]
      constructor
      · rintro (h | ⟨i, h1, h2⟩)
        · subst h
          exact ⟨0, rfl, rfl⟩
        · exact ⟨i + 1, by omega, by simpa using h2⟩
      · rintro ⟨i, h1, h2⟩
        cases i with
        | zero =>
          left
          simp at h2
          exact Prod.ext h1 h2.symm
        | succ i => exact Or.inr ⟨i, by omega, by simpa using h2⟩
theorem lvH_has {ls : Array Slot} (h : lvH ls nL lv) : lv_has ls nL (lvl 0 lv) := by
  refine ⟨h.1, h.2.1, fun q hq => ?_⟩
  obtain ⟨i, h1, h2⟩ := (lvl_mem lv 0 q).mp hq
  rw [h1, Nat.zero_add]
  exact h.2.2 i q.2 h2
theorem lvH_of {ls : Array Slot} (h : lv_has ls nL (lvl 0 lv)) : lvH ls nL lv := by
  refine ⟨h.1, h.2.1, fun i v hv => ?_⟩
  exact h.2.2 (i, v) ((lvl_mem lv 0 (i, v)).mpr ⟨i, (Nat.zero_add i).symm, hv⟩)
theorem lvH_store {ls : Array Slot} {i : Nat} {v : Value} (ho : okS lv i = true) (h : lv_has ls nL ((i, v) :: (lvl 0 lv).filter (fun q => !(q.1 == i) && !(q.1 + 1 == i && q.2.category == 2)))) : lvH ls nL (lv.set i (some v)) := by
  refine ⟨h.1, h.2.1, fun j x hx => ?_⟩
  refine h.2.2 (j, x) ?_
  rw [List.getElem?_set] at hx
  by_cases hj : i = j
  · subst hj
    rw [if_pos rfl] at hx
    split at hx
    · simp at hx
      subst hx
      exact List.mem_cons_self
    · simp at hx
  · rw [if_neg hj] at hx
    refine List.mem_cons_of_mem _ (List.mem_filter.mpr ⟨(lvl_mem lv 0 (j, x)).mpr ⟨j, (Nat.zero_add j).symm, hx⟩, ?_⟩)
    have h1 : (j == i) = false := by simpa using fun q => hj q.symm
    have h2 : (j + 1 == i && x.category == 2) = false := by
      by_cases h3 : j + 1 = i
      · subst h3
        simp only [okS, hx] at ho
        simp at ho
        simp [ho]
      · simp [h3]
    simp [h1, h2]
/-- a long takes two places -/
def stL2 (lv : List (Option Value)) (i : Nat) (v : Value) : List (Option Value) := (lv.set i (some v)).set (i + 1) none
theorem lvH_store2 {ls : Array Slot} {i : Nat} {v : Value} (ho : okS lv i = true) (h : lv_has ls nL ((i, v) :: (lvl 0 lv).filter (fun q => !(q.1 == i) && (!(q.1 == i + 1) && !(q.1 + 1 == i && q.2.category == 2))))) : lvH ls nL (stL2 lv i v) := by
  refine ⟨h.1, h.2.1, fun j x hx => ?_⟩
  refine h.2.2 (j, x) ?_
  unfold stL2 at hx
  rw [List.getElem?_set] at hx
  by_cases hj1 : i + 1 = j
  · rw [if_pos hj1] at hx
    split at hx <;> simp at hx
  · rw [if_neg hj1, List.getElem?_set] at hx
    by_cases hj : i = j
    · subst hj
      rw [if_pos rfl] at hx
      split at hx
      · simp at hx
        subst hx
        exact List.mem_cons_self
      · simp at hx
    · rw [if_neg hj] at hx
      refine List.mem_cons_of_mem _ (List.mem_filter.mpr ⟨(lvl_mem lv 0 (j, x)).mpr ⟨j, (Nat.zero_add j).symm, hx⟩, ?_⟩)
      have h1 : (j == i) = false := by simpa using fun q => hj q.symm
      have h1' : (j == i + 1) = false := by simpa using fun q => hj1 q.symm
      have h2 : (j + 1 == i && x.category == 2) = false := by
        by_cases h3 : j + 1 = i
        · subst h3
          simp only [okS, hx] at ho
          simp at ho
          simp [ho]
        · simp [h3]
      simp [h1, h1', h2]
theorem s_iconst (G : Ok p s m args meth c w cc nL own ret hi R A cs sl D) {n : Int} {v : Int32} (hd : decode cc pc = .ok (.iconst n, 1)) (hv : Int32.ofInt n = v) (k : Sim p l e R s m args below meth c w lo hi O nL A cs sl Q r0 (pc + 1) lv (.int v :: st) M X K) : Sim p l e R s m args below meth c w lo hi O nL A cs sl Q r0 pc lv st M X K := fun hx H locs ls hl hP hS => lv_iconst G.1 G.2.1 hd hv (k hx H locs ls hl hP hS)
theorem s_bipush (G : Ok p s m args meth c w cc nL own ret hi R A cs sl D) {n : Int} {v : Int32} (hd : decode cc pc = .ok (.bipush n, 2)) (hv : (Int8.ofInt n).toInt32 = v) (k : Sim p l e R s m args below meth c w lo hi O nL A cs sl Q r0 (pc + 2) lv (.int v :: st) M X K) : Sim p l e R s m args below meth c w lo hi O nL A cs sl Q r0 pc lv st M X K := fun hx H locs ls hl hP hS => lv_bipush G.1 G.2.1 hd hv (k hx H locs ls hl hP hS)
theorem s_sipush (G : Ok p s m args meth c w cc nL own ret hi R A cs sl D) {n : Int} {v : Int32} (hd : decode cc pc = .ok (.sipush n, 3)) (hv : (Int16.ofInt n).toInt32 = v) (k : Sim p l e R s m args below meth c w lo hi O nL A cs sl Q r0 (pc + 3) lv (.int v :: st) M X K) : Sim p l e R s m args below meth c w lo hi O nL A cs sl Q r0 pc lv st M X K := fun hx H locs ls hl hP hS => lv_sipush G.1 G.2.1 hd hv (k hx H locs ls hl hP hS)
theorem s_lconst (G : Ok p s m args meth c w cc nL own ret hi R A cs sl D) {n : Fin 2} {v : Int64} (hd : decode cc pc = .ok (.lconst n, 1)) (hv : Int64.ofNat (n : Nat) = v) (k : Sim p l e R s m args below meth c w lo hi O nL A cs sl Q r0 (pc + 1) lv (.long v :: st) M X K) : Sim p l e R s m args below meth c w lo hi O nL A cs sl Q r0 pc lv st M X K := fun hx H locs ls hl hP hS => lv_lconst G.1 G.2.1 hd hv (k hx H locs ls hl hP hS)
theorem s_ldc (G : Ok p s m args meth c w cc nL own ret hi R A cs sl D) {index i : Nat} {v : Int32} (hd : decode cc pc = .ok (.ldc index, 2)) (hq : lw_tbl[i]? = some (.constant own index v)) (k : Sim p l e R s m args below meth c w lo hi O nL A cs sl Q r0 (pc + 2) lv (.int v :: st) M X K) : Sim p l e R s m args below meth c w lo hi O nL A cs sl Q r0 pc lv st M X K := fun hx H locs ls hl hP hS => lv_ldc G.1 G.2.1 G.2.2.2.1 (G.2.2.2.2.1 _ (List.mem_of_getElem? hq) rfl) hd (k hx H locs ls hl hP hS)
theorem s_ldcw (G : Ok p s m args meth c w cc nL own ret hi R A cs sl D) {index i : Nat} {v : Int32} (hd : decode cc pc = .ok (.ldc_w index, 3)) (hq : lw_tbl[i]? = some (.constant own index v)) (k : Sim p l e R s m args below meth c w lo hi O nL A cs sl Q r0 (pc + 3) lv (.int v :: st) M X K) : Sim p l e R s m args below meth c w lo hi O nL A cs sl Q r0 pc lv st M X K := fun hx H locs ls hl hP hS => lv_ldcw G.1 G.2.1 G.2.2.2.1 (G.2.2.2.2.1 _ (List.mem_of_getElem? hq) rfl) hd (k hx H locs ls hl hP hS)
theorem s_ldc2 (G : Ok p s m args meth c w cc nL own ret hi R A cs sl D) {index i : Nat} {v : Int64} (hd : decode cc pc = .ok (.ldc2_w index, 3)) (hq : lw_tbl[i]? = some (.constantLong own index v)) (k : Sim p l e R s m args below meth c w lo hi O nL A cs sl Q r0 (pc + 3) lv (.long v :: st) M X K) : Sim p l e R s m args below meth c w lo hi O nL A cs sl Q r0 pc lv st M X K := fun hx H locs ls hl hP hS => lv_ldc2 G.1 G.2.1 G.2.2.2.1 (G.2.2.2.2.1 _ (List.mem_of_getElem? hq) rfl) hd (k hx H locs ls hl hP hS)
theorem s_ldcS (G : Ok p s m args meth c w cc nL own ret hi R A cs sl D) {index i : Nat} {tx : String} (hd : decode cc pc = .ok (.ldc index, 2)) (hq : stL[i]? = some (own, index, tx)) (k : Sim p l e R s m args below meth c w lo hi O nL A cs sl Q r0 (pc + 2) lv (.ref (w.2.2.2.1 i) :: st) M X K) : Sim p l e R s m args below meth c w lo hi O nL A cs sl Q r0 pc lv st M X K := fun hx H locs ls hl hP hS => va_ldcS G.1 G.2.1 G.2.2.2.1 (G.2.2.2.2.2.1.2.2 i _ hq) hd (k hx H locs ls hl hP hS)
theorem s_iload_n (G : Ok p s m args meth c w cc nL own ret hi R A cs sl D) {n : Fin 4} {x : Int32} (hd : decode cc pc = .ok (.iload_n n, 1)) (hv : lv[(n : Nat)]? = some (some (.int x))) (k : Sim p l e R s m args below meth c w lo hi O nL A cs sl Q r0 (pc + 1) lv (.int x :: st) M X K) : Sim p l e R s m args below meth c w lo hi O nL A cs sl Q r0 pc lv st M X K := fun hx H locs ls hl hP hS => lv_iload_n G.1 G.2.1 hd rfl (hl.2.2 _ _ hv) (k hx H locs ls hl hP hS)
theorem s_iload (G : Ok p s m args meth c w cc nL own ret hi R A cs sl D) {i : Nat} {x : Int32} (hd : decode cc pc = .ok (.iload i, 2)) (hv : lv[i]? = some (some (.int x))) (k : Sim p l e R s m args below meth c w lo hi O nL A cs sl Q r0 (pc + 2) lv (.int x :: st) M X K) : Sim p l e R s m args below meth c w lo hi O nL A cs sl Q r0 pc lv st M X K := fun hx H locs ls hl hP hS => lv_iload G.1 G.2.1 hd (hl.2.2 _ _ hv) (k hx H locs ls hl hP hS)
theorem s_istore_n (G : Ok p s m args meth c w cc nL own ret hi R A cs sl D) {n : Fin 4} {x : Int32} {lv2 : List (Option Value)} (hd : decode cc pc = .ok (.istore_n n, 1)) (hn : (n : Nat) < nL) (ho : okS lv (n : Nat) = true) (he : lv.set (n : Nat) (some (.int x)) = lv2) (k : Sim p l e R s m args below meth c w lo hi O nL A cs sl Q r0 (pc + 1) lv2 st M X K) : Sim p l e R s m args below meth c w lo hi O nL A cs sl Q r0 pc lv (.int x :: st) M X K := fun hx H locs ls hl hP hS => lv_istore_n G.1 G.2.1 hd rfl (lvH_has hl) hn rfl (fun ls2 hl2 => k hx H locs ls2 (he ▸ lvH_store ho hl2) hP hS)
theorem s_istore (G : Ok p s m args meth c w cc nL own ret hi R A cs sl D) {i : Nat} {x : Int32} {lv2 : List (Option Value)} (hd : decode cc pc = .ok (.istore i, 2)) (hn : i < nL) (ho : okS lv i = true) (he : lv.set i (some (.int x)) = lv2) (k : Sim p l e R s m args below meth c w lo hi O nL A cs sl Q r0 (pc + 2) lv2 st M X K) : Sim p l e R s m args below meth c w lo hi O nL A cs sl Q r0 pc lv (.int x :: st) M X K := fun hx H locs ls hl hP hS => lv_istore G.1 G.2.1 hd (lvH_has hl) hn rfl (fun ls2 hl2 => k hx H locs ls2 (he ▸ lvH_store ho hl2) hP hS)
theorem s_lload_n (G : Ok p s m args meth c w cc nL own ret hi R A cs sl D) {n : Fin 4} {x : Int64} (hd : decode cc pc = .ok (.lload_n n, 1)) (hv : lv[(n : Nat)]? = some (some (.long x))) (k : Sim p l e R s m args below meth c w lo hi O nL A cs sl Q r0 (pc + 1) lv (.long x :: st) M X K) : Sim p l e R s m args below meth c w lo hi O nL A cs sl Q r0 pc lv st M X K := fun hx H locs ls hl hP hS => lv_lload_n G.1 G.2.1 hd rfl (hl.2.2 _ _ hv) (k hx H locs ls hl hP hS)
theorem s_lload (G : Ok p s m args meth c w cc nL own ret hi R A cs sl D) {i : Nat} {x : Int64} (hd : decode cc pc = .ok (.lload i, 2)) (hv : lv[i]? = some (some (.long x))) (k : Sim p l e R s m args below meth c w lo hi O nL A cs sl Q r0 (pc + 2) lv (.long x :: st) M X K) : Sim p l e R s m args below meth c w lo hi O nL A cs sl Q r0 pc lv st M X K := fun hx H locs ls hl hP hS => lv_lload G.1 G.2.1 hd (hl.2.2 _ _ hv) (k hx H locs ls hl hP hS)
theorem s_lstore_n (G : Ok p s m args meth c w cc nL own ret hi R A cs sl D) {n : Fin 4} {x : Int64} {lv2 : List (Option Value)} (hd : decode cc pc = .ok (.lstore_n n, 1)) (hn : (n : Nat) + 1 < nL) (ho : okS lv (n : Nat) = true) (he : stL2 lv (n : Nat) (.long x) = lv2) (k : Sim p l e R s m args below meth c w lo hi O nL A cs sl Q r0 (pc + 1) lv2 st M X K) : Sim p l e R s m args below meth c w lo hi O nL A cs sl Q r0 pc lv (.long x :: st) M X K := fun hx H locs ls hl hP hS => lv_lstore_n G.1 G.2.1 hd rfl (lvH_has hl) hn rfl (fun ls2 hl2 => k hx H locs ls2 (he ▸ lvH_store2 ho hl2) hP hS)
theorem s_lstore (G : Ok p s m args meth c w cc nL own ret hi R A cs sl D) {i : Nat} {x : Int64} {lv2 : List (Option Value)} (hd : decode cc pc = .ok (.lstore i, 2)) (hn : i + 1 < nL) (ho : okS lv i = true) (he : stL2 lv i (.long x) = lv2) (k : Sim p l e R s m args below meth c w lo hi O nL A cs sl Q r0 (pc + 2) lv2 st M X K) : Sim p l e R s m args below meth c w lo hi O nL A cs sl Q r0 pc lv (.long x :: st) M X K := fun hx H locs ls hl hP hS => lv_lstore G.1 G.2.1 hd (lvH_has hl) hn rfl (fun ls2 hl2 => k hx H locs ls2 (he ▸ lvH_store2 ho hl2) hP hS)
theorem s_aload_n (G : Ok p s m args meth c w cc nL own ret hi R A cs sl D) {n : Fin 4} {x : Nat} (hd : decode cc pc = .ok (.aload_n n, 1)) (hv : lv[(n : Nat)]? = some (some (.ref x))) (k : Sim p l e R s m args below meth c w lo hi O nL A cs sl Q r0 (pc + 1) lv (.ref x :: st) M X K) : Sim p l e R s m args below meth c w lo hi O nL A cs sl Q r0 pc lv st M X K := fun hx H locs ls hl hP hS => lv_aload_n G.1 G.2.1 hd rfl (hl.2.2 _ _ hv) (k hx H locs ls hl hP hS)
theorem s_aload (G : Ok p s m args meth c w cc nL own ret hi R A cs sl D) {i : Nat} {x : Nat} (hd : decode cc pc = .ok (.aload i, 2)) (hv : lv[i]? = some (some (.ref x))) (k : Sim p l e R s m args below meth c w lo hi O nL A cs sl Q r0 (pc + 2) lv (.ref x :: st) M X K) : Sim p l e R s m args below meth c w lo hi O nL A cs sl Q r0 pc lv st M X K := fun hx H locs ls hl hP hS => lv_aload G.1 G.2.1 hd (hl.2.2 _ _ hv) (k hx H locs ls hl hP hS)
theorem s_astore_n (G : Ok p s m args meth c w cc nL own ret hi R A cs sl D) {n : Fin 4} {x : Nat} {lv2 : List (Option Value)} (hd : decode cc pc = .ok (.astore_n n, 1)) (hn : (n : Nat) < nL) (ho : okS lv (n : Nat) = true) (he : lv.set (n : Nat) (some (.ref x)) = lv2) (k : Sim p l e R s m args below meth c w lo hi O nL A cs sl Q r0 (pc + 1) lv2 st M X K) : Sim p l e R s m args below meth c w lo hi O nL A cs sl Q r0 pc lv (.ref x :: st) M X K := fun hx H locs ls hl hP hS => lv_astore_n G.1 G.2.1 hd rfl (lvH_has hl) hn rfl (fun ls2 hl2 => k hx H locs ls2 (he ▸ lvH_store ho hl2) hP hS)
theorem s_astore (G : Ok p s m args meth c w cc nL own ret hi R A cs sl D) {i : Nat} {x : Nat} {lv2 : List (Option Value)} (hd : decode cc pc = .ok (.astore i, 2)) (hn : i < nL) (ho : okS lv i = true) (he : lv.set i (some (.ref x)) = lv2) (k : Sim p l e R s m args below meth c w lo hi O nL A cs sl Q r0 (pc + 2) lv2 st M X K) : Sim p l e R s m args below meth c w lo hi O nL A cs sl Q r0 pc lv (.ref x :: st) M X K := fun hx H locs ls hl hP hS => lv_astore G.1 G.2.1 hd (lvH_has hl) hn rfl (fun ls2 hl2 => k hx H locs ls2 (he ▸ lvH_store ho hl2) hP hS)
theorem s_iinc (G : Ok p s m args meth c w cc nL own ret hi R A cs sl D) {i : Nat} {n : Int} {x v : Int32} {lv2 : List (Option Value)} (hd : decode cc pc = .ok (.iinc i n, 3)) (hv : lv[i]? = some (some (.int x))) (hw : x + Int32.ofInt n = v) (hn : i < nL) (ho : okS lv i = true) (he : lv.set i (some (.int v)) = lv2) (k : Sim p l e R s m args below meth c w lo hi O nL A cs sl Q r0 (pc + 3) lv2 st M X K) : Sim p l e R s m args below meth c w lo hi O nL A cs sl Q r0 pc lv st M X K := by
  intro hx H locs ls hl hP hS
  obtain ⟨j, hj⟩ := List.getElem?_of_mem ((lvl_mem lv 0 (i, .int x)).mpr ⟨i, (Nat.zero_add i).symm, hv⟩)
  exact lv_iinc G.1 G.2.1 hd (lvH_has hl) hj hw hn rfl (fun ls2 hl2 => k hx H locs ls2 (he ▸ lvH_store ho hl2) hP hS)
theorem s_iadd (G : Ok p s m args meth c w cc nL own ret hi R A cs sl D) {x y : Int32} (hd : decode cc pc = .ok (.iadd, 1)) (k : Sim p l e R s m args below meth c w lo hi O nL A cs sl Q r0 (pc + 1) lv (.int (x + y) :: st) M X K) : Sim p l e R s m args below meth c w lo hi O nL A cs sl Q r0 pc lv (.int y :: .int x :: st) M X K := fun hx H locs ls hl hP hS => lv_iadd G.1 G.2.1 hd (k hx H locs ls hl hP hS)
theorem s_isub (G : Ok p s m args meth c w cc nL own ret hi R A cs sl D) {x y : Int32} (hd : decode cc pc = .ok (.isub, 1)) (k : Sim p l e R s m args below meth c w lo hi O nL A cs sl Q r0 (pc + 1) lv (.int (x - y) :: st) M X K) : Sim p l e R s m args below meth c w lo hi O nL A cs sl Q r0 pc lv (.int y :: .int x :: st) M X K := fun hx H locs ls hl hP hS => lv_isub G.1 G.2.1 hd (k hx H locs ls hl hP hS)
theorem s_imul (G : Ok p s m args meth c w cc nL own ret hi R A cs sl D) {x y : Int32} (hd : decode cc pc = .ok (.imul, 1)) (k : Sim p l e R s m args below meth c w lo hi O nL A cs sl Q r0 (pc + 1) lv (.int (x * y) :: st) M X K) : Sim p l e R s m args below meth c w lo hi O nL A cs sl Q r0 pc lv (.int y :: .int x :: st) M X K := fun hx H locs ls hl hP hS => lv_imul G.1 G.2.1 hd (k hx H locs ls hl hP hS)
theorem s_iand (G : Ok p s m args meth c w cc nL own ret hi R A cs sl D) {x y : Int32} (hd : decode cc pc = .ok (.iand, 1)) (k : Sim p l e R s m args below meth c w lo hi O nL A cs sl Q r0 (pc + 1) lv (.int (x &&& y) :: st) M X K) : Sim p l e R s m args below meth c w lo hi O nL A cs sl Q r0 pc lv (.int y :: .int x :: st) M X K := fun hx H locs ls hl hP hS => lv_iand G.1 G.2.1 hd (k hx H locs ls hl hP hS)
theorem s_ior (G : Ok p s m args meth c w cc nL own ret hi R A cs sl D) {x y : Int32} (hd : decode cc pc = .ok (.ior, 1)) (k : Sim p l e R s m args below meth c w lo hi O nL A cs sl Q r0 (pc + 1) lv (.int (x ||| y) :: st) M X K) : Sim p l e R s m args below meth c w lo hi O nL A cs sl Q r0 pc lv (.int y :: .int x :: st) M X K := fun hx H locs ls hl hP hS => lv_ior G.1 G.2.1 hd (k hx H locs ls hl hP hS)
theorem s_ixor (G : Ok p s m args meth c w cc nL own ret hi R A cs sl D) {x y : Int32} (hd : decode cc pc = .ok (.ixor, 1)) (k : Sim p l e R s m args below meth c w lo hi O nL A cs sl Q r0 (pc + 1) lv (.int (x ^^^ y) :: st) M X K) : Sim p l e R s m args below meth c w lo hi O nL A cs sl Q r0 pc lv (.int y :: .int x :: st) M X K := fun hx H locs ls hl hP hS => lv_ixor G.1 G.2.1 hd (k hx H locs ls hl hP hS)
theorem s_ishl (G : Ok p s m args meth c w cc nL own ret hi R A cs sl D) {x y : Int32} (hd : decode cc pc = .ok (.ishl, 1)) (k : Sim p l e R s m args below meth c w lo hi O nL A cs sl Q r0 (pc + 1) lv (.int (x <<< (y &&& 31)) :: st) M X K) : Sim p l e R s m args below meth c w lo hi O nL A cs sl Q r0 pc lv (.int y :: .int x :: st) M X K := fun hx H locs ls hl hP hS => lv_ishl G.1 G.2.1 hd (k hx H locs ls hl hP hS)
theorem s_ishr (G : Ok p s m args meth c w cc nL own ret hi R A cs sl D) {x y : Int32} (hd : decode cc pc = .ok (.ishr, 1)) (k : Sim p l e R s m args below meth c w lo hi O nL A cs sl Q r0 (pc + 1) lv (.int (x >>> (y &&& 31)) :: st) M X K) : Sim p l e R s m args below meth c w lo hi O nL A cs sl Q r0 pc lv (.int y :: .int x :: st) M X K := fun hx H locs ls hl hP hS => lv_ishr G.1 G.2.1 hd (k hx H locs ls hl hP hS)
theorem s_idiv (G : Ok p s m args meth c w cc nL own ret hi R A cs sl D) {x y : Int32} (hd : decode cc pc = .ok (.idiv, 1)) (hne : ¬ y = 0) (k : Sim p l e R s m args below meth c w lo hi O nL A cs sl Q r0 (pc + 1) lv (.int (x / y) :: st) M X K) : Sim p l e R s m args below meth c w lo hi O nL A cs sl Q r0 pc lv (.int y :: .int x :: st) M X K := fun hx H locs ls hl hP hS => lv_idiv G.1 G.2.1 hd hne (k hx H locs ls hl hP hS)
theorem s_ineg (G : Ok p s m args meth c w cc nL own ret hi R A cs sl D) {x : Int32} (hd : decode cc pc = .ok (.ineg, 1)) (k : Sim p l e R s m args below meth c w lo hi O nL A cs sl Q r0 (pc + 1) lv (.int (-x) :: st) M X K) : Sim p l e R s m args below meth c w lo hi O nL A cs sl Q r0 pc lv (.int x :: st) M X K := fun hx H locs ls hl hP hS => lv_ineg G.1 G.2.1 hd (k hx H locs ls hl hP hS)
theorem s_ladd (G : Ok p s m args meth c w cc nL own ret hi R A cs sl D) {x y : Int64} (hd : decode cc pc = .ok (.ladd, 1)) (k : Sim p l e R s m args below meth c w lo hi O nL A cs sl Q r0 (pc + 1) lv (.long (x + y) :: st) M X K) : Sim p l e R s m args below meth c w lo hi O nL A cs sl Q r0 pc lv (.long y :: .long x :: st) M X K := fun hx H locs ls hl hP hS => lv_ladd G.1 G.2.1 hd (k hx H locs ls hl hP hS)
theorem s_lmul (G : Ok p s m args meth c w cc nL own ret hi R A cs sl D) {x y : Int64} (hd : decode cc pc = .ok (.lmul, 1)) (k : Sim p l e R s m args below meth c w lo hi O nL A cs sl Q r0 (pc + 1) lv (.long (x * y) :: st) M X K) : Sim p l e R s m args below meth c w lo hi O nL A cs sl Q r0 pc lv (.long y :: .long x :: st) M X K := fun hx H locs ls hl hP hS => lv_lmul G.1 G.2.1 hd (k hx H locs ls hl hP hS)
theorem s_lcmp (G : Ok p s m args meth c w cc nL own ret hi R A cs sl D) {x y : Int64} (hd : decode cc pc = .ok (.lcmp, 1)) (k : Sim p l e R s m args below meth c w lo hi O nL A cs sl Q r0 (pc + 1) lv (.int (lg_cmp x y) :: st) M X K) : Sim p l e R s m args below meth c w lo hi O nL A cs sl Q r0 pc lv (.long y :: .long x :: st) M X K := fun hx H locs ls hl hP hS => W.lcmp G.1 G.2.1 hd (k hx H locs ls hl hP hS)
theorem s_iushr (G : Ok p s m args meth c w cc nL own ret hi R A cs sl D) {x y : Int32} (hd : decode cc pc = .ok (.iushr, 1)) (k : Sim p l e R s m args below meth c w lo hi O nL A cs sl Q r0 (pc + 1) lv (.int (x.toUInt32 >>> (y.toUInt32 &&& Int32.toUInt32 31)).toInt32 :: st) M X K) : Sim p l e R s m args below meth c w lo hi O nL A cs sl Q r0 pc lv (.int y :: .int x :: st) M X K := fun hx H locs ls hl hP hS => lv_iushr G.1 G.2.1 hd rfl (k hx H locs ls hl hP hS)
theorem s_i2l (G : Ok p s m args meth c w cc nL own ret hi R A cs sl D) {x : Int32} (hd : decode cc pc = .ok (.i2l, 1)) (k : Sim p l e R s m args below meth c w lo hi O nL A cs sl Q r0 (pc + 1) lv (.long x.toInt64 :: st) M X K) : Sim p l e R s m args below meth c w lo hi O nL A cs sl Q r0 pc lv (.int x :: st) M X K := fun hx H locs ls hl hP hS => lv_i2l G.1 G.2.1 hd rfl (k hx H locs ls hl hP hS)
theorem s_l2i (G : Ok p s m args meth c w cc nL own ret hi R A cs sl D) {x : Int64} (hd : decode cc pc = .ok (.l2i, 1)) (k : Sim p l e R s m args below meth c w lo hi O nL A cs sl Q r0 (pc + 1) lv (.int x.toInt32 :: st) M X K) : Sim p l e R s m args below meth c w lo hi O nL A cs sl Q r0 pc lv (.long x :: st) M X K := fun hx H locs ls hl hP hS => lv_l2i G.1 G.2.1 hd rfl (k hx H locs ls hl hP hS)
theorem s_i2b (G : Ok p s m args meth c w cc nL own ret hi R A cs sl D) {x : Int32} (hd : decode cc pc = .ok (.i2b, 1)) (k : Sim p l e R s m args below meth c w lo hi O nL A cs sl Q r0 (pc + 1) lv (.int x.toInt8.toInt32 :: st) M X K) : Sim p l e R s m args below meth c w lo hi O nL A cs sl Q r0 pc lv (.int x :: st) M X K := fun hx H locs ls hl hP hS => lv_i2b G.1 G.2.1 hd rfl (k hx H locs ls hl hP hS)
theorem s_i2s (G : Ok p s m args meth c w cc nL own ret hi R A cs sl D) {x : Int32} (hd : decode cc pc = .ok (.i2s, 1)) (k : Sim p l e R s m args below meth c w lo hi O nL A cs sl Q r0 (pc + 1) lv (.int x.toInt16.toInt32 :: st) M X K) : Sim p l e R s m args below meth c w lo hi O nL A cs sl Q r0 pc lv (.int x :: st) M X K := fun hx H locs ls hl hP hS => lv_i2s G.1 G.2.1 hd rfl (k hx H locs ls hl hP hS)
theorem s_dup (G : Ok p s m args meth c w cc nL own ret hi R A cs sl D) {v : Value} (hd : decode cc pc = .ok (.dup, 1)) (h1 : v.category = 1) (k : Sim p l e R s m args below meth c w lo hi O nL A cs sl Q r0 (pc + 1) lv (v :: v :: st) M X K) : Sim p l e R s m args below meth c w lo hi O nL A cs sl Q r0 pc lv (v :: st) M X K := fun hx H locs ls hl hP hS => lv_dup G.1 G.2.1 hd h1 (k hx H locs ls hl hP hS)
theorem s_pop (G : Ok p s m args meth c w cc nL own ret hi R A cs sl D) {v : Value} (hd : decode cc pc = .ok (.pop, 1)) (h1 : v.category = 1) (k : Sim p l e R s m args below meth c w lo hi O nL A cs sl Q r0 (pc + 1) lv st M X K) : Sim p l e R s m args below meth c w lo hi O nL A cs sl Q r0 pc lv (v :: st) M X K := fun hx H locs ls hl hP hS => lv_pop G.1 G.2.1 hd h1 (k hx H locs ls hl hP hS)
theorem s_dup2 (G : Ok p s m args meth c w cc nL own ret hi R A cs sl D) {v u : Value} (hd : decode cc pc = .ok (.dup2, 1)) (h1 : v.category = 1) (h2 : u.category = 1) (k : Sim p l e R s m args below meth c w lo hi O nL A cs sl Q r0 (pc + 1) lv (v :: u :: v :: u :: st) M X K) : Sim p l e R s m args below meth c w lo hi O nL A cs sl Q r0 pc lv (v :: u :: st) M X K := fun hx H locs ls hl hP hS => lv_dup2_11 G.1 G.2.1 hd h1 h2 (k hx H locs ls hl hP hS)
theorem s_icmp_eq (G : Ok p s m args meth c w cc nL own ret hi R A cs sl D) {x y : Int32} {off : Int} {tgt : Nat} {X1 X2 : Option α} [DD : Decidable (x = y)] (hd : decode cc pc = .ok (.if_icmp .eq off, 3)) (ht : (pc : Int) + off = (tgt : Int)) (k1 : Sim p l e R s m args below meth c w lo hi O nL A cs sl Q r0 tgt lv st M X1 K) (k2 : Sim p l e R s m args below meth c w lo hi O nL A cs sl Q r0 (pc + 3) lv st M X2 K) : Sim p l e R s m args below meth c w lo hi O nL A cs sl Q r0 pc lv (.int y :: .int x :: st) M (if x = y then X1 else X2) K := fun hx H locs ls hl hP hS => lv_icmp_eq G.1 G.2.1 hd ht (fun h => k1 (by rw [if_pos h] at hx; exact hx) H locs ls hl hP hS) (fun h => k2 (by rw [if_neg h] at hx; exact hx) H locs ls hl hP hS)
theorem s_if_eq (G : Ok p s m args meth c w cc nL own ret hi R A cs sl D) {x : Int32} {off : Int} {tgt : Nat} {X1 X2 : Option α} [DD : Decidable (x = 0)] (hd : decode cc pc = .ok (.ifCond .eq off, 3)) (ht : (pc : Int) + off = (tgt : Int)) (k1 : Sim p l e R s m args below meth c w lo hi O nL A cs sl Q r0 tgt lv st M X1 K) (k2 : Sim p l e R s m args below meth c w lo hi O nL A cs sl Q r0 (pc + 3) lv st M X2 K) : Sim p l e R s m args below meth c w lo hi O nL A cs sl Q r0 pc lv (.int x :: st) M (if x = 0 then X1 else X2) K := fun hx H locs ls hl hP hS => lv_if_eq G.1 G.2.1 hd ht (fun h => k1 (by rw [if_pos h] at hx; exact hx) H locs ls hl hP hS) (fun h => k2 (by rw [if_neg h] at hx; exact hx) H locs ls hl hP hS)
theorem s_icmp_ne (G : Ok p s m args meth c w cc nL own ret hi R A cs sl D) {x y : Int32} {off : Int} {tgt : Nat} {X1 X2 : Option α} [DD : Decidable (x = y)] (hd : decode cc pc = .ok (.if_icmp .ne off, 3)) (ht : (pc : Int) + off = (tgt : Int)) (k1 : Sim p l e R s m args below meth c w lo hi O nL A cs sl Q r0 (pc + 3) lv st M X1 K) (k2 : Sim p l e R s m args below meth c w lo hi O nL A cs sl Q r0 tgt lv st M X2 K) : Sim p l e R s m args below meth c w lo hi O nL A cs sl Q r0 pc lv (.int y :: .int x :: st) M (if x = y then X1 else X2) K := fun hx H locs ls hl hP hS => lv_icmp_ne G.1 G.2.1 hd ht (fun h => k2 (by rw [if_neg h] at hx; exact hx) H locs ls hl hP hS) (fun h => k1 (by rw [if_pos h] at hx; exact hx) H locs ls hl hP hS)
theorem s_if_ne (G : Ok p s m args meth c w cc nL own ret hi R A cs sl D) {x : Int32} {off : Int} {tgt : Nat} {X1 X2 : Option α} [DD : Decidable (x = 0)] (hd : decode cc pc = .ok (.ifCond .ne off, 3)) (ht : (pc : Int) + off = (tgt : Int)) (k1 : Sim p l e R s m args below meth c w lo hi O nL A cs sl Q r0 (pc + 3) lv st M X1 K) (k2 : Sim p l e R s m args below meth c w lo hi O nL A cs sl Q r0 tgt lv st M X2 K) : Sim p l e R s m args below meth c w lo hi O nL A cs sl Q r0 pc lv (.int x :: st) M (if x = 0 then X1 else X2) K := fun hx H locs ls hl hP hS => lv_if_ne G.1 G.2.1 hd ht (fun h => k2 (by rw [if_neg h] at hx; exact hx) H locs ls hl hP hS) (fun h => k1 (by rw [if_pos h] at hx; exact hx) H locs ls hl hP hS)
theorem s_icmp_lt (G : Ok p s m args meth c w cc nL own ret hi R A cs sl D) {x y : Int32} {off : Int} {tgt : Nat} {X1 X2 : Option α} [DD : Decidable (x < y)] (hd : decode cc pc = .ok (.if_icmp .lt off, 3)) (ht : (pc : Int) + off = (tgt : Int)) (k1 : Sim p l e R s m args below meth c w lo hi O nL A cs sl Q r0 tgt lv st M X1 K) (k2 : Sim p l e R s m args below meth c w lo hi O nL A cs sl Q r0 (pc + 3) lv st M X2 K) : Sim p l e R s m args below meth c w lo hi O nL A cs sl Q r0 pc lv (.int y :: .int x :: st) M (if x < y then X1 else X2) K := fun hx H locs ls hl hP hS => lv_icmp_lt G.1 G.2.1 hd ht (fun h => k1 (by rw [if_pos h] at hx; exact hx) H locs ls hl hP hS) (fun h => k2 (by rw [if_neg h] at hx; exact hx) H locs ls hl hP hS)
theorem s_if_lt (G : Ok p s m args meth c w cc nL own ret hi R A cs sl D) {x : Int32} {off : Int} {tgt : Nat} {X1 X2 : Option α} [DD : Decidable (x < 0)] (hd : decode cc pc = .ok (.ifCond .lt off, 3)) (ht : (pc : Int) + off = (tgt : Int)) (k1 : Sim p l e R s m args below meth c w lo hi O nL A cs sl Q r0 tgt lv st M X1 K) (k2 : Sim p l e R s m args below meth c w lo hi O nL A cs sl Q r0 (pc + 3) lv st M X2 K) : Sim p l e R s m args below meth c w lo hi O nL A cs sl Q r0 pc lv (.int x :: st) M (if x < 0 then X1 else X2) K := fun hx H locs ls hl hP hS => lv_if_lt G.1 G.2.1 hd ht (fun h => k1 (by rw [if_pos h] at hx; exact hx) H locs ls hl hP hS) (fun h => k2 (by rw [if_neg h] at hx; exact hx) H locs ls hl hP hS)
theorem s_icmp_ge (G : Ok p s m args meth c w cc nL own ret hi R A cs sl D) {x y : Int32} {off : Int} {tgt : Nat} {X1 X2 : Option α} [DD : Decidable (y ≤ x)] (hd : decode cc pc = .ok (.if_icmp .ge off, 3)) (ht : (pc : Int) + off = (tgt : Int)) (k1 : Sim p l e R s m args below meth c w lo hi O nL A cs sl Q r0 tgt lv st M X1 K) (k2 : Sim p l e R s m args below meth c w lo hi O nL A cs sl Q r0 (pc + 3) lv st M X2 K) : Sim p l e R s m args below meth c w lo hi O nL A cs sl Q r0 pc lv (.int y :: .int x :: st) M (if y ≤ x then X1 else X2) K := fun hx H locs ls hl hP hS => lv_icmp_ge G.1 G.2.1 hd ht (fun h => k1 (by rw [if_pos h] at hx; exact hx) H locs ls hl hP hS) (fun h => k2 (by rw [if_neg h] at hx; exact hx) H locs ls hl hP hS)
theorem s_if_ge (G : Ok p s m args meth c w cc nL own ret hi R A cs sl D) {x : Int32} {off : Int} {tgt : Nat} {X1 X2 : Option α} [DD : Decidable (0 ≤ x)] (hd : decode cc pc = .ok (.ifCond .ge off, 3)) (ht : (pc : Int) + off = (tgt : Int)) (k1 : Sim p l e R s m args below meth c w lo hi O nL A cs sl Q r0 tgt lv st M X1 K) (k2 : Sim p l e R s m args below meth c w lo hi O nL A cs sl Q r0 (pc + 3) lv st M X2 K) : Sim p l e R s m args below meth c w lo hi O nL A cs sl Q r0 pc lv (.int x :: st) M (if 0 ≤ x then X1 else X2) K := fun hx H locs ls hl hP hS => lv_if_ge G.1 G.2.1 hd ht (fun h => k1 (by rw [if_pos h] at hx; exact hx) H locs ls hl hP hS) (fun h => k2 (by rw [if_neg h] at hx; exact hx) H locs ls hl hP hS)
theorem s_icmp_gt (G : Ok p s m args meth c w cc nL own ret hi R A cs sl D) {x y : Int32} {off : Int} {tgt : Nat} {X1 X2 : Option α} [DD : Decidable (y < x)] (hd : decode cc pc = .ok (.if_icmp .gt off, 3)) (ht : (pc : Int) + off = (tgt : Int)) (k1 : Sim p l e R s m args below meth c w lo hi O nL A cs sl Q r0 tgt lv st M X1 K) (k2 : Sim p l e R s m args below meth c w lo hi O nL A cs sl Q r0 (pc + 3) lv st M X2 K) : Sim p l e R s m args below meth c w lo hi O nL A cs sl Q r0 pc lv (.int y :: .int x :: st) M (if y < x then X1 else X2) K := fun hx H locs ls hl hP hS => lv_icmp_gt G.1 G.2.1 hd ht (fun h => k1 (by rw [if_pos h] at hx; exact hx) H locs ls hl hP hS) (fun h => k2 (by rw [if_neg h] at hx; exact hx) H locs ls hl hP hS)
theorem s_if_gt (G : Ok p s m args meth c w cc nL own ret hi R A cs sl D) {x : Int32} {off : Int} {tgt : Nat} {X1 X2 : Option α} [DD : Decidable (0 < x)] (hd : decode cc pc = .ok (.ifCond .gt off, 3)) (ht : (pc : Int) + off = (tgt : Int)) (k1 : Sim p l e R s m args below meth c w lo hi O nL A cs sl Q r0 tgt lv st M X1 K) (k2 : Sim p l e R s m args below meth c w lo hi O nL A cs sl Q r0 (pc + 3) lv st M X2 K) : Sim p l e R s m args below meth c w lo hi O nL A cs sl Q r0 pc lv (.int x :: st) M (if 0 < x then X1 else X2) K := fun hx H locs ls hl hP hS => lv_if_gt G.1 G.2.1 hd ht (fun h => k1 (by rw [if_pos h] at hx; exact hx) H locs ls hl hP hS) (fun h => k2 (by rw [if_neg h] at hx; exact hx) H locs ls hl hP hS)
theorem s_icmp_le (G : Ok p s m args meth c w cc nL own ret hi R A cs sl D) {x y : Int32} {off : Int} {tgt : Nat} {X1 X2 : Option α} [DD : Decidable (x ≤ y)] (hd : decode cc pc = .ok (.if_icmp .le off, 3)) (ht : (pc : Int) + off = (tgt : Int)) (k1 : Sim p l e R s m args below meth c w lo hi O nL A cs sl Q r0 tgt lv st M X1 K) (k2 : Sim p l e R s m args below meth c w lo hi O nL A cs sl Q r0 (pc + 3) lv st M X2 K) : Sim p l e R s m args below meth c w lo hi O nL A cs sl Q r0 pc lv (.int y :: .int x :: st) M (if x ≤ y then X1 else X2) K := fun hx H locs ls hl hP hS => lv_icmp_le G.1 G.2.1 hd ht (fun h => k1 (by rw [if_pos h] at hx; exact hx) H locs ls hl hP hS) (fun h => k2 (by rw [if_neg h] at hx; exact hx) H locs ls hl hP hS)
theorem s_if_le (G : Ok p s m args meth c w cc nL own ret hi R A cs sl D) {x : Int32} {off : Int} {tgt : Nat} {X1 X2 : Option α} [DD : Decidable (x ≤ 0)] (hd : decode cc pc = .ok (.ifCond .le off, 3)) (ht : (pc : Int) + off = (tgt : Int)) (k1 : Sim p l e R s m args below meth c w lo hi O nL A cs sl Q r0 tgt lv st M X1 K) (k2 : Sim p l e R s m args below meth c w lo hi O nL A cs sl Q r0 (pc + 3) lv st M X2 K) : Sim p l e R s m args below meth c w lo hi O nL A cs sl Q r0 pc lv (.int x :: st) M (if x ≤ 0 then X1 else X2) K := fun hx H locs ls hl hP hS => lv_if_le G.1 G.2.1 hd ht (fun h => k1 (by rw [if_pos h] at hx; exact hx) H locs ls hl hP hS) (fun h => k2 (by rw [if_neg h] at hx; exact hx) H locs ls hl hP hS)
theorem s_goto (G : Ok p s m args meth c w cc nL own ret hi R A cs sl D) {off : Int} {tgt : Nat} (hd : decode cc pc = .ok (.goto off, 3)) (ht : (pc : Int) + off = (tgt : Int)) (k : Sim p l e R s m args below meth c w lo hi O nL A cs sl Q r0 tgt lv st M X K) : Sim p l e R s m args below meth c w lo hi O nL A cs sl Q r0 pc lv st M X K := fun hx H locs ls hl hP hS => lv_goto G.1 G.2.1 hd ht (k hx H locs ls hl hP hS)
theorem s_name {γ : Type} {v : γ} {f : γ → Value} {k : γ → Option α} (h : ∀ u : γ, Sim p l e R s m args below meth c w lo hi O nL A cs sl Q r0 pc lv (f u :: st) M (k u) K) : Sim p l e R s m args below meth c w lo hi O nL A cs sl Q r0 pc lv (f v :: st) M (bn v k) K := fun hx => h v hx
theorem s_mask {lv2 : List (Option Value)} (h : ∀ (i : Nat) (v : Value), lv2[i]? = some (some v) → lv[i]? = some (some v)) (k : Sim p l e R s m args below meth c w lo hi O nL A cs sl Q r0 pc lv2 st M X K) : Sim p l e R s m args below meth c w lo hi O nL A cs sl Q r0 pc lv st M X K := fun hx H locs ls hl hP hS => k hx H locs ls ⟨hl.1, hl.2.1, fun i v hv => hl.2.2 i v (h i v hv)⟩ hP hS
def mk : List (Option Value) → List Bool → List (Option Value)
  | [], _ => []
  | _ :: t, [] => none :: mk t []
  | _ :: t, false :: b => none :: mk t b
  | x :: t, true :: b => x :: mk t b
theorem mk_sub : ∀ (lv : List (Option Value)) (b : List Bool) (i : Nat) (v : Value), (mk lv b)[i]? = some (some v) → lv[i]? = some (some v)
  | [], _, _, _, h => by simp [mk] at h
  | x :: t, [], 0, v, h => by simp [mk] at h
  | x :: t, [], i + 1, v, h => by simpa using mk_sub t [] i v (by simpa [mk] using h)
  | x :: t, false :: b, 0, v, h => by simp [mk] at h
  | x :: t, false :: b, i + 1, v, h => by simpa using mk_sub t b i v (by simpa [mk] using h)
  | x :: t, true :: b, 0, v, h => by simpa [mk] using h
  | x :: t, true :: b, i + 1, v, h => by simpa using mk_sub t b i v (by simpa [mk] using h)
theorem s_keep (b : List Bool) {lv2 : List (Option Value)} (he : mk lv b = lv2) (k : Sim p l e R s m args below meth c w lo hi O nL A cs sl Q r0 pc lv2 st M X K) : Sim p l e R s m args below meth c w lo hi O nL A cs sl Q r0 pc lv st M X K := s_mask (fun i v h => mk_sub lv b i v (he ▸ h)) k
theorem s_join {x : Option β} {k : β → Option α} (pj : Nat) (lvf : β → List (Option Value)) (stf : β → List Value) (Mf : β → Mem) (rest : ∀ y, Sim p l e R s m args below meth c w lo hi O nL A cs sl Q r0 pj (lvf y) (stf y) (Mf y) (k y) K) (tree : ∀ K2 : β → Option ρ, (∀ y, K2 y = some r0 → AtP p l e R s m args below meth c w lo hi O nL A cs sl Q pj (lvf y) (stf y) (Mf y)) → Sim p l e R s m args below meth c w lo hi O nL A cs sl Q r0 pc lv st M x K2) : Sim p l e R s m args below meth c w lo hi O nL A cs sl Q r0 pc lv st M (Option.bind x k) K := by
  intro hx
  rw [Option.bind_assoc] at hx
  exact tree (fun y => (k y).bind K) (fun y hy => rest y hy) hx
theorem s_leaf {y : β} {K2 : β → Option ρ} (lvf : β → List (Option Value)) (stf : β → List Value) (Mf : β → Mem) (hB : ∀ y, K2 y = some r0 → AtP p l e R s m args below meth c w lo hi O nL A cs sl Q pc (lvf y) (stf y) (Mf y)) : Sim p l e R s m args below meth c w lo hi O nL A cs sl Q r0 pc (lvf y) (stf y) (Mf y) (some y) K2 := fun hx => hB y hx
theorem lp_at {step : σ → Option (σ ⊕ ε)} {KE : ε → Option ρ} {P : σ → Prop} (body : ∀ (s : σ) (K2 : σ ⊕ ε → Option ρ), (∀ s2, K2 (.inl s2) = some r0 → P s2) → (∀ x, K2 (.inr x) = some r0 → KE x = some r0) → (step s).bind K2 = some r0 → P s) : ∀ (n : Nat) (s : σ), (lp step n s).bind KE = some r0 → P s := by
  intro n
  induction n with
  | zero => intro s h; simp [lp] at h
  | succ n ih =>
    intro s h
    refine body s (fun q => match q with | .inl s2 => (lp step n s2).bind KE | .inr x => KE x) (fun s2 h' => ih s2 h') (fun x h' => h') ?_
    unfold lp at h
    cases hs : step s with
    | none => rw [hs] at h; simp at h
    | some q =>
      rw [hs] at h
      cases q with
      | inl s2 => exact h
      | inr x => exact h
theorem s_loop {step : σ → Option (σ ⊕ ε)} {n : Nat} {s0 : σ} {k : ε → Option α} (px : Nat) (lvf : σ → List (Option Value)) (Mf : σ → Mem) (lve : ε → List (Option Value)) (Me : ε → Mem) (rest : ∀ x, Sim p l e R s m args below meth c w lo hi O nL A cs sl Q r0 px (lve x) st (Me x) (k x) K) (body : ∀ (z : σ) (K2 : σ ⊕ ε → Option ρ), (∀ z2, K2 (.inl z2) = some r0 → AtP p l e R s m args below meth c w lo hi O nL A cs sl Q pc (lvf z2) st (Mf z2)) → (∀ x, K2 (.inr x) = some r0 → AtP p l e R s m args below meth c w lo hi O nL A cs sl Q px (lve x) st (Me x)) → Sim p l e R s m args below meth c w lo hi O nL A cs sl Q r0 pc (lvf z) st (Mf z) (step z) K2) : Sim p l e R s m args below meth c w lo hi O nL A cs sl Q r0 pc (lvf s0) st (Mf s0) (Option.bind (lp step n s0) k) K := by
  intro hx
  rw [Option.bind_assoc] at hx
  exact lp_at (P := fun z => AtP p l e R s m args below meth c w lo hi O nL A cs sl Q pc (lvf z) st (Mf z)) (fun z K2 h1 h2 h3 => body z K2 h1 (fun x hk => rest x (h2 x hk)) h3) n s0 hx
theorem s_loop2 {ε2 : Type} {step : σ → Option (σ ⊕ (ε ⊕ ε2))} {n : Nat} {s0 : σ} {k : ε → Option α} {k2 : ε2 → Option α} (px px2 : Nat) (lvf : σ → List (Option Value)) (Mf : σ → Mem) (lve : ε → List (Option Value)) (Me : ε → Mem) (lve2 : ε2 → List (Option Value)) (Me2 : ε2 → Mem) (rest : ∀ x, Sim p l e R s m args below meth c w lo hi O nL A cs sl Q r0 px (lve x) st (Me x) (k x) K) (rest2 : ∀ x, Sim p l e R s m args below meth c w lo hi O nL A cs sl Q r0 px2 (lve2 x) st (Me2 x) (k2 x) K) (body : ∀ (z : σ) (K2 : σ ⊕ (ε ⊕ ε2) → Option ρ), (∀ z2, K2 (.inl z2) = some r0 → AtP p l e R s m args below meth c w lo hi O nL A cs sl Q pc (lvf z2) st (Mf z2)) → (∀ x, K2 (.inr (.inl x)) = some r0 → AtP p l e R s m args below meth c w lo hi O nL A cs sl Q px (lve x) st (Me x)) → (∀ x, K2 (.inr (.inr x)) = some r0 → AtP p l e R s m args below meth c w lo hi O nL A cs sl Q px2 (lve2 x) st (Me2 x)) → Sim p l e R s m args below meth c w lo hi O nL A cs sl Q r0 pc (lvf z) st (Mf z) (step z) K2) : Sim p l e R s m args below meth c w lo hi O nL A cs sl Q r0 pc (lvf s0) st (Mf s0) (Option.bind (lp step n s0) (el k k2)) K := by
  intro hx
  rw [Option.bind_assoc] at hx
  exact lp_at (P := fun z => AtP p l e R s m args below meth c w lo hi O nL A cs sl Q pc (lvf z) st (Mf z)) (fun z K2 h1 h2 h3 => body z K2 h1 (fun x hk => rest x (h2 (.inl x) hk)) (fun x hk => rest2 x (h2 (.inr x) hk)) h3) n s0 hx
theorem s_next {s2 : σ} {K2 : σ ⊕ ε → Option ρ} (lvf : σ → List (Option Value)) (Mf : σ → Mem) (hB : ∀ z2, K2 (.inl z2) = some r0 → AtP p l e R s m args below meth c w lo hi O nL A cs sl Q pc (lvf z2) st (Mf z2)) : Sim p l e R s m args below meth c w lo hi O nL A cs sl Q r0 pc (lvf s2) st (Mf s2) (some (.inl s2)) K2 := fun hx => hB s2 hx
theorem s_exit {x : ε} {K2 : σ ⊕ ε → Option ρ} (lve : ε → List (Option Value)) (Me : ε → Mem) (hE : ∀ x, K2 (.inr x) = some r0 → AtP p l e R s m args below meth c w lo hi O nL A cs sl Q pc (lve x) st (Me x)) : Sim p l e R s m args below meth c w lo hi O nL A cs sl Q r0 pc (lve x) st (Me x) (some (.inr x)) K2 := fun hx => hE x hx
theorem s_exitL {ε2 : Type} {x : ε} {K2 : σ ⊕ (ε ⊕ ε2) → Option ρ} (lve : ε → List (Option Value)) (Me : ε → Mem) (hE : ∀ x, K2 (.inr (.inl x)) = some r0 → AtP p l e R s m args below meth c w lo hi O nL A cs sl Q pc (lve x) st (Me x)) : Sim p l e R s m args below meth c w lo hi O nL A cs sl Q r0 pc (lve x) st (Me x) (some (.inr (.inl x))) K2 := fun hx => hE x hx
theorem s_exitR {ε2 : Type} {x : ε2} {K2 : σ ⊕ (ε ⊕ ε2) → Option ρ} (lve : ε2 → List (Option Value)) (Me : ε2 → Mem) (hE : ∀ x, K2 (.inr (.inr x)) = some r0 → AtP p l e R s m args below meth c w lo hi O nL A cs sl Q pc (lve x) st (Me x)) : Sim p l e R s m args below meth c w lo hi O nL A cs sl Q r0 pc (lve x) st (Me x) (some (.inr (.inr x))) K2 := fun hx => hE x hx
theorem s_none {Y : Option α} (h : Y = none) : Sim p l e R s m args below meth c w lo hi O nL A cs sl Q r0 pc lv st M Y K := fun hx => by rw [h] at hx; simp at hx
theorem s_test {q : Prop} [DD : Decidable q] {X1 : Option α} (k : q → Sim p l e R s m args below meth c w lo hi O nL A cs sl Q r0 pc lv st M X1 K) : Sim p l e R s m args below meth c w lo hi O nL A cs sl Q r0 pc lv st M (if q then X1 else none) K := by
  intro hx
  by_cases h : q
  · rw [if_pos h] at hx; exact k h hx
  · rw [if_neg h] at hx; simp at hx
end SIM
end
section
/-! THE ROWS of fields, arrays, calls, answers; the contract out of a walk -/
theorem inR_in {i : Int32} {n : Nat} (h : inR i n) : vp_in i n := fun q => q.elim h.1 (fun z => absurd h.2 (Nat.not_lt.mpr z))
abbrev ClOk (ci : Nat) (C : String) (T : u_T) (N : Nat) (ty : Nat → FieldType) : Prop := vwCl[ci]? = some (C, T, N) ∧ (∀ x ∈ u_ws C T N, x ∈ lw_tbl ∧ goodWord x = true) ∧ (∀ k, k < N → parseFieldDescriptor (T k).2.2.1 = some (ty k)) ∧ ∀ a, a < N → ∀ b, b < N → a ≠ b → (T a).2.1 ≠ (T b).2.1
theorem clX0 : ClOk 0 RX0 TX0 9 tyX0 := ⟨rfl, by decide +kernel, tyX0_ok, nmX0⟩
theorem clX1 : ClOk 1 RX1 TX1 5 tyX1 := ⟨rfl, by decide +kernel, tyX1_ok, nmX1⟩
theorem clX2 : ClOk 2 RX2 TX2 3 tyX2 := ⟨rfl, by decide +kernel, tyX2_ok, nmX2⟩
theorem clX3 : ClOk 3 RX3 TX3 3 tyX3 := ⟨rfl, by decide +kernel, tyX3_ok, nmX3⟩
theorem clX4 : ClOk 4 RX4 TX4 2 tyX4 := ⟨rfl, by decide +kernel, tyX4_ok, nmX4⟩
theorem clX5 : ClOk 5 RX5 TX5 9 tyX5 := ⟨rfl, by decide +kernel, tyX5_ok, nmX5⟩
theorem clX6 : ClOk 6 RX6 TX6 19 tyX6 := ⟨rfl, by decide +kernel, tyX6_ok, nmX6⟩
theorem ce_sheet (w : Wx) {q : Nat} (h : q < 4) (f : Nat → Int32) (g : Nat → Int64) : ce w (27 + 2 * q) f g = ceSheet w (27 + 2 * q) f := by
  match q, h with
  | 0, _ => rfl
  | 1, _ => rfl
  | 2, _ => rfl
  | 3, _ => rfl
theorem ce_num (w : Wx) {q : Nat} (h : q < 4) (f : Nat → Int32) (g : Nat → Int64) : ce w (27 + 2 * q + 1) f g = ceJ w 40 g := by
  match q, h with
  | 0, _ => rfl
  | 1, _ => rfl
  | 2, _ => rfl
  | 3, _ => rfl
/-- what the tables must say of a method that is called -/
abbrev MdB (μ : Md) (n : Nat) : Prop := Cond.code μ.1 μ.2.1 μ.2.2.1 μ.2.2.2 ∈ lw_tbl ∧ Cond.initialized μ.1.cls ∈ lw_tbl ∧ (μ.1.cls ≠ "java/lang/invoke/MethodHandle" ∧ μ.1.cls ≠ "java/lang/invoke/VarHandle" ∧ (parseMethodDescriptor μ.1.desc).map (fun d => d.parameters.length) = some n) ∧ μ.2.2.1 ≤ 45
abbrev MdV (μ : Md) (n : Nat) : Prop := MdB μ n ∧ Cond.instanceMethod μ.1 ∈ lw_tbl ∧ Cond.selects μ.1.cls μ.1 μ.1 ∈ lw_tbl
abbrev MdS (μ : Md) (n : Nat) : Prop := MdB μ n ∧ Cond.static μ.1 ∈ lw_tbl
theorem good_wsM {μ : Md} (h : Cond.code μ.1 μ.2.1 μ.2.2.1 μ.2.2.2 ∈ lw_tbl) : GoodIn (lw_tbl.filter goodWord) (wsM μ) := by
  intro x hx
  rcases List.mem_cons.mp hx with rfl | hx
  · exact ⟨List.mem_filter.mpr ⟨h, rfl⟩, good_of_word rfl⟩
  · exact ⟨hx, good_of_word (List.mem_filter.mp hx).2⟩

section SIM2
variable {p : Program} {l : Launch} {e : Env} {R : Room} {s : State} {m : MethodId} {args : Array Value} {below : List Frame} {meth : Method} {c : Code} {w : Wx} {lo hi : Nat} {O : Mem} {nL : Nat} {A : Nat → Prop} {cs sl : Nat} {Q : State → Prop} {ρ α β σ ε : Type} {r0 : ρ} {cc : ByteArray} {own : String} {ret : Option FieldType} {D pc : Nat} {lv : List (Option Value)} {st : List Value} {M : Mem} {X : Option α} {K : α → Option ρ}

theorem s_get (G : Ok p s m args meth c w cc nL own ret hi R A cs sl D) {k j i index : Nat} (v : Value) {fs : (Nat → Int32) → List Value} {ci N : Nat} {C ref : String} {T : u_T} {ty : Nat → FieldType} (hr : lo ≤ k ∧ k < hi) (hce : ∀ f g, ce w k f g = .inr (ci, fs f)) (hv : (fs (M.1 k))[j]? = some v) (cl : ClOk ci C T N ty) (hj : j < N) (hq : lw_tbl[i]? = some (.fieldLink own index ref (T j).2.1 (T j).2.2.1)) (hsame : ref = (T j).1) (hd : decode cc pc = .ok (.getfield index, 3)) (kk : Sim p l e R s m args below meth c w lo hi O nL A cs sl Q r0 (pc + 3) lv (v :: st) M X K) : Sim p l e R s m args below meth c w lo hi O nL A cs sl Q r0 pc lv (.ref (w.1 k) :: st) M X K := by
  intro hx H locs ls hl hP hS
  subst hsame
  have hg := wd_get w O M hr G.2.2.2.2.2.2.2.2.2.2.1
  rw [hce] at hg
  exact va_get G.1 G.2.1 (Ts := u_ws C T N) (fun x h => G.2.2.2.2.1 x (cl.2.1 x h).1 (cl.2.1 x h).2) (fun _ h => h) G.2.2.2.1 G.2.2.2.2.2.1.1 hP k hg cl.1 j hj (G.2.2.2.2.1 _ (List.mem_of_getElem? hq) rfl) (fun _ h => h) hv hd (kk hx H locs ls hl hP hS)
theorem s_put (G : Ok p s m args meth c w cc nL own ret hi R A cs sl D) {k j i index : Nat} {x : Int32} {f : Mem → Option α} {fs : (Nat → Int32) → List Value} {ci N : Nat} {C ref : String} {T : u_T} {ty : Nat → FieldType} (hr : lo ≤ k ∧ k < hi) (hce : ∀ f g, ce w k f g = .inr (ci, fs f)) (hset : ∀ f, (fs f).set j (.int x) = fs (upd f j x)) (cl : ClOk ci C T N ty) (hj : j < N) (hl9 : ∀ f, j < (fs f).length) (hq : lw_tbl[i]? = some (.fieldLink own index ref (T j).2.1 (T j).2.2.1)) (hsame : ref = (T j).1) (hfin : (T j).2.2.2 = false) (hn : narrow (ty j) (.int x) = .int x) (hf : fits (ty j) (.int x) = true) (hd : decode cc pc = .ok (.putfield index, 3)) (kk : ∀ M2, Sim p l e R s m args below meth c w lo hi O nL A cs sl Q r0 (pc + 3) lv st M2 (f M2) K) : Sim p l e R s m args below meth c w lo hi O nL A cs sl Q r0 pc lv (.int x :: .ref (w.1 k) :: st) M (bn (sI M k j x) f) K := by
  intro hx H locs ls hl hP hS
  subst hsame
  have hg := wd_get w O M hr G.2.2.2.2.2.2.2.2.2.2.1
  rw [hce] at hg
  refine va_put G.1 G.2.1 (Ts := u_ws C T N) (A := A) (fun x h => G.2.2.2.2.1 x (cl.2.1 x h).1 (cl.2.1 x h).2) (fun _ h => h) ty cl.2.2.1 cl.2.2.2 G.2.2.2.1 G.2.2.2.2.2.1.1 hP ((wd_D G.2.2.2.2.2.2.2.1 lo hi O M).weaken (fun _ _ _ h => G.2.2.2.2.2.2.2.2.2.2.2.1 _ h)) hS k hg cl.1 j hj (G.2.2.2.2.1 _ (List.mem_of_getElem? hq) rfl) (fun _ h => h) hfin (cl.2.2.1 j hj) hn hf (hl9 _) hd (fun H1 locs1 hP1 _ hS1 => ?_)
  refine kk _ hx H1 locs1 ls hl ?_ hS1
  rw [← wd_setI w O M hr G.2.2.2.2.2.2.2.2.2.2.1, hce, ← hset]
  exact hP1
theorem s_iald (G : Ok p s m args meth c w cc nL own ret hi R A cs sl D) {k n : Nat} {i : Int32} (hr : lo ≤ k ∧ k < hi) (hce : ∀ f g, ce w k f g = ceI w n f) (hd : decode cc pc = .ok (.iaload, 1)) (kk : Sim p l e R s m args below meth c w lo hi O nL A cs sl Q r0 (pc + 1) lv (.int (gI M k i.toNatClampNeg) :: st) M X K) : Sim p l e R s m args below meth c w lo hi O nL A cs sl Q r0 pc lv (.int i :: .ref (w.1 k) :: st) M (if inR i n then X else none) K := by
  refine s_test (fun h => ?_)
  intro hx H locs ls hl hP hS
  have hg := wd_get w O M hr G.2.2.2.2.2.2.2.2.2.2.1
  rw [hce] at hg
  exact va_iald G.1 G.2.1 G.2.2.2.2.2.1.1 hP k 1 hg rfl (inR_in h) hd (kk hx H locs ls hl hP hS)
theorem s_ialdC (G : Ok p s m args meth c w cc nL own ret hi R A cs sl D) {k n j : Nat} {i : Int32} (hr : lo ≤ k ∧ k < hi) (hce : ∀ f g, ce w k f g = ceI w n f) (hi0 : inR i n) (hj : i.toNatClampNeg = j) (hd : decode cc pc = .ok (.iaload, 1)) (kk : Sim p l e R s m args below meth c w lo hi O nL A cs sl Q r0 (pc + 1) lv (.int (gI M k j) :: st) M X K) : Sim p l e R s m args below meth c w lo hi O nL A cs sl Q r0 pc lv (.int i :: .ref (w.1 k) :: st) M X K := by
  intro hx H locs ls hl hP hS
  subst hj
  have hg := wd_get w O M hr G.2.2.2.2.2.2.2.2.2.2.1
  rw [hce] at hg
  exact va_iald G.1 G.2.1 G.2.2.2.2.2.1.1 hP k 1 hg rfl (inR_in hi0) hd (kk hx H locs ls hl hP hS)
theorem s_bald (G : Ok p s m args meth c w cc nL own ret hi R A cs sl D) {k n : Nat} {i : Int32} (hr : lo ≤ k ∧ k < hi) (hce : ∀ f g, ce w k f g = ceB w n f) (hd : decode cc pc = .ok (.baload, 1)) (kk : Sim p l e R s m args below meth c w lo hi O nL A cs sl Q r0 (pc + 1) lv (.int (gI M k i.toNatClampNeg) :: st) M X K) : Sim p l e R s m args below meth c w lo hi O nL A cs sl Q r0 pc lv (.int i :: .ref (w.1 k) :: st) M (if inR i n then X else none) K := by
  refine s_test (fun h => ?_)
  intro hx H locs ls hl hP hS
  have hg := wd_get w O M hr G.2.2.2.2.2.2.2.2.2.2.1
  rw [hce] at hg
  exact va_bald G.1 G.2.1 G.2.2.2.2.2.1.1 hP k 0 hg rfl (inR_in h) hd (kk hx H locs ls hl hP hS)
theorem s_baldC (G : Ok p s m args meth c w cc nL own ret hi R A cs sl D) {k n j : Nat} {i : Int32} (hr : lo ≤ k ∧ k < hi) (hce : ∀ f g, ce w k f g = ceB w n f) (hi0 : inR i n) (hj : i.toNatClampNeg = j) (hd : decode cc pc = .ok (.baload, 1)) (kk : Sim p l e R s m args below meth c w lo hi O nL A cs sl Q r0 (pc + 1) lv (.int (gI M k j) :: st) M X K) : Sim p l e R s m args below meth c w lo hi O nL A cs sl Q r0 pc lv (.int i :: .ref (w.1 k) :: st) M X K := by
  intro hx H locs ls hl hP hS
  subst hj
  have hg := wd_get w O M hr G.2.2.2.2.2.2.2.2.2.2.1
  rw [hce] at hg
  exact va_bald G.1 G.2.1 G.2.2.2.2.2.1.1 hP k 0 hg rfl (inR_in hi0) hd (kk hx H locs ls hl hP hS)
theorem s_iast (G : Ok p s m args meth c w cc nL own ret hi R A cs sl D) {k n : Nat} {i x : Int32} {f : Mem → Option α} (hr : lo ≤ k ∧ k < hi) (hce : ∀ f g, ce w k f g = ceI w n f) (hd : decode cc pc = .ok (.iastore, 1)) (kk : ∀ M2, Sim p l e R s m args below meth c w lo hi O nL A cs sl Q r0 (pc + 1) lv st M2 (f M2) K) : Sim p l e R s m args below meth c w lo hi O nL A cs sl Q r0 pc lv (.int x :: .int i :: .ref (w.1 k) :: st) M (if inR i n then bn (sI M k i.toNatClampNeg x) f else none) K := by
  refine s_test (fun h => ?_)
  intro hx H locs ls hl hP hS
  have hg := wd_get w O M hr G.2.2.2.2.2.2.2.2.2.2.1
  rw [hce] at hg
  refine va_iast G.1 G.2.1 (A := A) G.2.2.2.2.2.1.1 hP ((wd_D G.2.2.2.2.2.2.2.1 lo hi O M).weaken (fun _ _ _ h => G.2.2.2.2.2.2.2.2.2.2.2.1 _ h)) hS k 1 hg rfl (inR_in h) hd (fun H1 locs1 hP1 _ hS1 => ?_)
  refine kk _ hx H1 locs1 ls hl ?_ hS1
  rw [← wd_setI w O M hr G.2.2.2.2.2.2.2.2.2.2.1, hce]
  exact hP1
theorem s_iastC (G : Ok p s m args meth c w cc nL own ret hi R A cs sl D) {k n j : Nat} {i x : Int32} {f : Mem → Option α} (hr : lo ≤ k ∧ k < hi) (hce : ∀ f g, ce w k f g = ceI w n f) (hi0 : inR i n) (hj : i.toNatClampNeg = j) (hd : decode cc pc = .ok (.iastore, 1)) (kk : ∀ M2, Sim p l e R s m args below meth c w lo hi O nL A cs sl Q r0 (pc + 1) lv st M2 (f M2) K) : Sim p l e R s m args below meth c w lo hi O nL A cs sl Q r0 pc lv (.int x :: .int i :: .ref (w.1 k) :: st) M (bn (sI M k j x) f) K := by
  subst hj
  intro hx H locs ls hl hP hS
  have hg := wd_get w O M hr G.2.2.2.2.2.2.2.2.2.2.1
  rw [hce] at hg
  refine va_iast G.1 G.2.1 (A := A) G.2.2.2.2.2.1.1 hP ((wd_D G.2.2.2.2.2.2.2.1 lo hi O M).weaken (fun _ _ _ h => G.2.2.2.2.2.2.2.2.2.2.2.1 _ h)) hS k 1 hg rfl (inR_in hi0) hd (fun H1 locs1 hP1 _ hS1 => ?_)
  refine kk _ hx H1 locs1 ls hl ?_ hS1
  rw [← wd_setI w O M hr G.2.2.2.2.2.2.2.2.2.2.1, hce]
  exact hP1
theorem s_bast (G : Ok p s m args meth c w cc nL own ret hi R A cs sl D) {k n : Nat} {i x : Int32} {f : Mem → Option α} (hr : lo ≤ k ∧ k < hi) (hce : ∀ f g, ce w k f g = ceB w n f) (hd : decode cc pc = .ok (.bastore, 1)) (kk : ∀ M2, Sim p l e R s m args below meth c w lo hi O nL A cs sl Q r0 (pc + 1) lv st M2 (f M2) K) : Sim p l e R s m args below meth c w lo hi O nL A cs sl Q r0 pc lv (.int x :: .int i :: .ref (w.1 k) :: st) M (if inR i n then bn (sI M k i.toNatClampNeg (x.toInt8.toInt32)) f else none) K := by
  refine s_test (fun h => ?_)
  intro hx H locs ls hl hP hS
  have hg := wd_get w O M hr G.2.2.2.2.2.2.2.2.2.2.1
  rw [hce] at hg
  refine va_bast G.1 G.2.1 (A := A) G.2.2.2.2.2.1.1 hP ((wd_D G.2.2.2.2.2.2.2.1 lo hi O M).weaken (fun _ _ _ h => G.2.2.2.2.2.2.2.2.2.2.2.1 _ h)) hS k 0 hg rfl (inR_in h) hd (fun H1 locs1 hP1 _ hS1 => ?_)
  refine kk _ hx H1 locs1 ls hl ?_ hS1
  rw [← wd_setI w O M hr G.2.2.2.2.2.2.2.2.2.2.1, hce]
  rw [vp_nar_byte] at hP1
  exact hP1
theorem s_bastC (G : Ok p s m args meth c w cc nL own ret hi R A cs sl D) {k n j : Nat} {i x : Int32} {f : Mem → Option α} (hr : lo ≤ k ∧ k < hi) (hce : ∀ f g, ce w k f g = ceB w n f) (hi0 : inR i n) (hj : i.toNatClampNeg = j) (hd : decode cc pc = .ok (.bastore, 1)) (kk : ∀ M2, Sim p l e R s m args below meth c w lo hi O nL A cs sl Q r0 (pc + 1) lv st M2 (f M2) K) : Sim p l e R s m args below meth c w lo hi O nL A cs sl Q r0 pc lv (.int x :: .int i :: .ref (w.1 k) :: st) M (bn (sI M k j (x.toInt8.toInt32)) f) K := by
  subst hj
  intro hx H locs ls hl hP hS
  have hg := wd_get w O M hr G.2.2.2.2.2.2.2.2.2.2.1
  rw [hce] at hg
  refine va_bast G.1 G.2.1 (A := A) G.2.2.2.2.2.1.1 hP ((wd_D G.2.2.2.2.2.2.2.1 lo hi O M).weaken (fun _ _ _ h => G.2.2.2.2.2.2.2.2.2.2.2.1 _ h)) hS k 0 hg rfl (inR_in hi0) hd (fun H1 locs1 hP1 _ hS1 => ?_)
  refine kk _ hx H1 locs1 ls hl ?_ hS1
  rw [← wd_setI w O M hr G.2.2.2.2.2.2.2.2.2.2.1, hce]
  rw [vp_nar_byte] at hP1
  exact hP1
theorem s_lald (G : Ok p s m args meth c w cc nL own ret hi R A cs sl D) {k n : Nat} {i : Int32} (hr : lo ≤ k ∧ k < hi) (hce : ∀ f g, ce w k f g = ceJ w n g) (hd : decode cc pc = .ok (.laload, 1)) (kk : Sim p l e R s m args below meth c w lo hi O nL A cs sl Q r0 (pc + 1) lv (.long (gJ M k i.toNatClampNeg) :: st) M X K) : Sim p l e R s m args below meth c w lo hi O nL A cs sl Q r0 pc lv (.int i :: .ref (w.1 k) :: st) M (if inR i n then X else none) K := by
  refine s_test (fun h => ?_)
  intro hx H locs ls hl hP hS
  have hg := wd_get w O M hr G.2.2.2.2.2.2.2.2.2.2.1
  rw [hce] at hg
  exact va_lald G.1 G.2.1 G.2.2.2.2.2.1.1 hP k 2 hg rfl (inR_in h) hd (kk hx H locs ls hl hP hS)
theorem s_last (G : Ok p s m args meth c w cc nL own ret hi R A cs sl D) {k n : Nat} {i : Int32} {x : Int64} {f : Mem → Option α} (hr : lo ≤ k ∧ k < hi) (hce : ∀ f g, ce w k f g = ceJ w n g) (hd : decode cc pc = .ok (.lastore, 1)) (kk : ∀ M2, Sim p l e R s m args below meth c w lo hi O nL A cs sl Q r0 (pc + 1) lv st M2 (f M2) K) : Sim p l e R s m args below meth c w lo hi O nL A cs sl Q r0 pc lv (.long x :: .int i :: .ref (w.1 k) :: st) M (if inR i n then bn (sJ M k i.toNatClampNeg x) f else none) K := by
  refine s_test (fun h => ?_)
  intro hx H locs ls hl hP hS
  have hg := wd_get w O M hr G.2.2.2.2.2.2.2.2.2.2.1
  rw [hce] at hg
  refine va_last G.1 G.2.1 (A := A) G.2.2.2.2.2.1.1 hP ((wd_D G.2.2.2.2.2.2.2.1 lo hi O M).weaken (fun _ _ _ h => G.2.2.2.2.2.2.2.2.2.2.2.1 _ h)) hS k 2 hg rfl (inR_in h) hd (fun H1 locs1 hP1 _ hS1 => ?_)
  refine kk _ hx H1 locs1 ls hl ?_ hS1
  rw [← wd_setJ w O M hr G.2.2.2.2.2.2.2.2.2.2.1, hce]
  exact hP1
theorem s_aald (G : Ok p s m args meth c w cc nL own ret hi R A cs sl D) {i : Int32} {f : Nat → Option α} (hr : lo ≤ 26 ∧ 26 < hi) (hd : decode cc pc = .ok (.aaload, 1)) (kk : ∀ q, q < 4 → Sim p l e R s m args below meth c w lo hi O nL A cs sl Q r0 (pc + 1) lv (.ref (w.1 (27 + 2 * q)) :: st) M (f q) K) : Sim p l e R s m args below meth c w lo hi O nL A cs sl Q r0 pc lv (.int i :: .ref (w.1 26) :: st) M (if inR i 4 then bn i.toNatClampNeg f else none) K := by
  refine s_test (fun h => ?_)
  intro hx H locs ls hl hP hS
  have hg := wd_get w O M hr G.2.2.2.2.2.2.2.2.2.2.1
  exact va_aldq (C := "HangerRail$Sheet") G.1 G.2.1 G.2.2.2.2.2.1.1 hP 26 3 hg rfl (inR_in h) hd (kk _ h.2 hx H locs ls hl hP hS)
theorem s_alen (G : Ok p s m args meth c w cc nL own ret hi R A cs sl D) {k n : Nat} {v : Int32} (hr : lo ≤ k ∧ k < hi) (hce : ∀ f g, ce w k f g = ceI w n f) (hv : Int32.ofNat n = v) (hd : decode cc pc = .ok (.arraylength, 1)) (kk : Sim p l e R s m args below meth c w lo hi O nL A cs sl Q r0 (pc + 1) lv (.int v :: st) M X K) : Sim p l e R s m args below meth c w lo hi O nL A cs sl Q r0 pc lv (.ref (w.1 k) :: st) M X K := by
  intro hx H locs ls hl hP hS
  subst hv
  have hg := wd_get w O M hr G.2.2.2.2.2.2.2.2.2.2.1
  rw [hce] at hg
  exact va_alen G.1 G.2.1 G.2.2.2.2.2.1.1 hP k 1 hg rfl rfl hd (kk hx H locs ls hl hP hS)
theorem s_copyI (G : Ok p s m args meth c w cc nL own ret hi R A cs sl D) {k0 k1 n0 n1 index i1 i2 i3 i4 : Nat} {sp dp n : Int32} {f : Mem → Option α} (hr0 : lo ≤ k0 ∧ k0 < hi) (hr1 : lo ≤ k1 ∧ k1 < hi) (hc0 : ∀ f g, ce w k0 f g = ceI w n0 f) (hc1 : ∀ f g, ce w k1 f g = ceI w n1 f) (h1 : ¬ sp < 0) (h2 : ¬ dp < 0) (h3 : ¬ n < 0) (h4 : sp.toNatClampNeg + n.toNatClampNeg ≤ n0) (h5 : dp.toNatClampNeg + n.toNatClampNeg ≤ n1) (q1 : lw_tbl[i1]? = some (.methodLink own index arraycopyName)) (q2 : lw_tbl[i2]? = some (.native arraycopyName)) (q3 : lw_tbl[i3]? = some (.static arraycopyName)) (q4 : lw_tbl[i4]? = some (.initialized "java/lang/System")) (hD : 1 ≤ D) (hw : (st.map fun v => v.category).sum ≤ 8) (hd : decode cc pc = .ok (.invokestatic index, 3)) (kk : ∀ M2, Sim p l e R s m args below meth c w lo hi O nL A cs sl Q r0 (pc + 3) lv st M2 (f M2) K) : Sim p l e R s m args below meth c w lo hi O nL A cs sl Q r0 pc lv (.int n :: .int dp :: .ref (w.1 k1) :: .int sp :: .ref (w.1 k0) :: st) M (bn (rI M k1 (va_cpy (M.1 k0) (M.1 k1) sp.toNatClampNeg dp.toNatClampNeg n.toNatClampNeg)) f) K := by
  intro hx H locs ls hl hP hS
  have hg0 := wd_get w O M hr0 G.2.2.2.2.2.2.2.2.2.2.1
  rw [hc0] at hg0
  have hg1 := wd_get w O M hr1 G.2.2.2.2.2.2.2.2.2.2.1
  rw [hc1] at hg1
  have hfr : 1 ≤ R.frames := Nat.le_trans hD G.2.2.2.2.2.2.2.2.2.2.2.2.2.2.1
  have hlo : (st.map fun v => v.category).sum + (nativeFrameWords "java/lang/System" "arraycopy" 5 + 11) ≤ R.locals := by
    have h9 := G.2.2.2.2.2.2.2.2.2.2.2.2.2.2.2
    have : nativeFrameWords "java/lang/System" "arraycopy" 5 ≤ 20 := by decide +kernel
    omega
  refine va_copyi G.1 G.2.1 (by rw [G.2.2.1]; exact hl.1.symm) (A := A) G.2.2.2.1 (G.2.2.2.2.1 _ (List.mem_of_getElem? q1) rfl) (G.2.2.2.2.1 _ (List.mem_of_getElem? q2) rfl) (G.2.2.2.2.1 _ (List.mem_of_getElem? q3) rfl) (G.2.2.2.2.1 _ (List.mem_of_getElem? q4) rfl) G.2.2.2.2.2.1.1 hP ((wd_D G.2.2.2.2.2.2.2.1 lo hi O M).weaken (fun _ _ _ h => G.2.2.2.2.2.2.2.2.2.2.2.1 _ h)) hS k0 k1 1 1 hg0 hg1 rfl rfl rfl h1 h2 h3 h4 h5 (fun _ _ => rfl) hfr hlo hd (fun H1 locs1 hP1 _ hS1 => ?_)
  refine kk _ hx H1 locs1 ls hl ?_ hS1
  rw [← wd_setR w O M hr1 G.2.2.2.2.2.2.2.2.2.2.1, hc1]
  exact hP1
theorem s_copyJ (G : Ok p s m args meth c w cc nL own ret hi R A cs sl D) {k0 k1 n0 n1 index i1 i2 i3 i4 : Nat} {sp dp n : Int32} {f : Mem → Option α} (hr0 : lo ≤ k0 ∧ k0 < hi) (hr1 : lo ≤ k1 ∧ k1 < hi) (hc0 : ∀ f g, ce w k0 f g = ceJ w n0 g) (hc1 : ∀ f g, ce w k1 f g = ceJ w n1 g) (h1 : ¬ sp < 0) (h2 : ¬ dp < 0) (h3 : ¬ n < 0) (h4 : sp.toNatClampNeg + n.toNatClampNeg ≤ n0) (h5 : dp.toNatClampNeg + n.toNatClampNeg ≤ n1) (q1 : lw_tbl[i1]? = some (.methodLink own index arraycopyName)) (q2 : lw_tbl[i2]? = some (.native arraycopyName)) (q3 : lw_tbl[i3]? = some (.static arraycopyName)) (q4 : lw_tbl[i4]? = some (.initialized "java/lang/System")) (hD : 1 ≤ D) (hw : (st.map fun v => v.category).sum ≤ 8) (hd : decode cc pc = .ok (.invokestatic index, 3)) (kk : ∀ M2, Sim p l e R s m args below meth c w lo hi O nL A cs sl Q r0 (pc + 3) lv st M2 (f M2) K) : Sim p l e R s m args below meth c w lo hi O nL A cs sl Q r0 pc lv (.int n :: .int dp :: .ref (w.1 k1) :: .int sp :: .ref (w.1 k0) :: st) M (bn (rJ M k1 (va_cpy (M.2 k0) (M.2 k1) sp.toNatClampNeg dp.toNatClampNeg n.toNatClampNeg)) f) K := by
  intro hx H locs ls hl hP hS
  have hg0 := wd_get w O M hr0 G.2.2.2.2.2.2.2.2.2.2.1
  rw [hc0] at hg0
  have hg1 := wd_get w O M hr1 G.2.2.2.2.2.2.2.2.2.2.1
  rw [hc1] at hg1
  have hfr : 1 ≤ R.frames := Nat.le_trans hD G.2.2.2.2.2.2.2.2.2.2.2.2.2.2.1
  have hlo : (st.map fun v => v.category).sum + (nativeFrameWords "java/lang/System" "arraycopy" 5 + 11) ≤ R.locals := by
    have h9 := G.2.2.2.2.2.2.2.2.2.2.2.2.2.2.2
    have : nativeFrameWords "java/lang/System" "arraycopy" 5 ≤ 20 := by decide +kernel
    omega
  refine va_copyl G.1 G.2.1 (by rw [G.2.2.1]; exact hl.1.symm) (A := A) G.2.2.2.1 (G.2.2.2.2.1 _ (List.mem_of_getElem? q1) rfl) (G.2.2.2.2.1 _ (List.mem_of_getElem? q2) rfl) (G.2.2.2.2.1 _ (List.mem_of_getElem? q3) rfl) (G.2.2.2.2.1 _ (List.mem_of_getElem? q4) rfl) G.2.2.2.2.2.1.1 hP ((wd_D G.2.2.2.2.2.2.2.1 lo hi O M).weaken (fun _ _ _ h => G.2.2.2.2.2.2.2.2.2.2.2.1 _ h)) hS k0 k1 2 2 hg0 hg1 rfl rfl rfl h1 h2 h3 h4 h5 (fun _ _ => rfl) hfr hlo hd (fun H1 locs1 hP1 _ hS1 => ?_)
  refine kk _ hx H1 locs1 ls hl ?_ hS1
  rw [← wd_setRJ w O M hr1 G.2.2.2.2.2.2.2.2.2.2.1, hc1]
  exact hP1
theorem s_mmax (G : Ok p s m args meth c w cc nL own ret hi R A cs sl D) {index i1 i2 i3 i4 : Nat} {x y : Int32} (q1 : lw_tbl[i1]? = some (.methodLink own index Lib.Math.max.name)) (q2 : lw_tbl[i2]? = some (.static Lib.Math.max.name)) (q3 : lw_tbl[i3]? = some (.initialized "java/lang/Math")) (q4 : lw_tbl[i4]? = some (.code Lib.Math.max.name Lib.Math.max.code 2 (some .int))) (hD : 1 ≤ D) (hw : (st.map fun v => v.category).sum ≤ 8) (hd : decode cc pc = .ok (.invokestatic index, 3)) (kk : Sim p l e R s m args below meth c w lo hi O nL A cs sl Q r0 (pc + 3) lv (.int (if x < y then y else x) :: st) M X K) : Sim p l e R s m args below meth c w lo hi O nL A cs sl Q r0 pc lv (.int y :: .int x :: st) M X K := by
  intro hx H locs ls hl hP hS
  have hfr : 1 ≤ R.frames := Nat.le_trans hD G.2.2.2.2.2.2.2.2.2.2.2.2.2.2.1
  have hlo : (st.map fun v => v.category).sum + 13 ≤ R.locals := by
    have h9 := G.2.2.2.2.2.2.2.2.2.2.2.2.2.2.2
    omega
  exact va_mmax G.1 G.2.1 (by rw [G.2.2.1]; exact hl.1.symm) G.2.2.2.1 (G.2.2.2.2.1 _ (List.mem_of_getElem? q1) rfl) (G.2.2.2.2.1 _ (List.mem_of_getElem? q2) rfl) (G.2.2.2.2.1 _ (List.mem_of_getElem? q3) rfl) (G.2.2.2.2.1 _ (List.mem_of_getElem? q4) rfl) hfr hlo G.2.2.2.2.2.2.2.2.2.2.2.2.1 G.2.2.2.2.2.2.2.2.2.2.2.2.2.1 hd (kk hx H locs ls hl hP hS)
theorem s_mmin (G : Ok p s m args meth c w cc nL own ret hi R A cs sl D) {index i1 i2 i3 i4 : Nat} {x y : Int32} (q1 : lw_tbl[i1]? = some (.methodLink own index Lib.Math.min.name)) (q2 : lw_tbl[i2]? = some (.static Lib.Math.min.name)) (q3 : lw_tbl[i3]? = some (.initialized "java/lang/Math")) (q4 : lw_tbl[i4]? = some (.code Lib.Math.min.name Lib.Math.min.code 2 (some .int))) (hD : 1 ≤ D) (hw : (st.map fun v => v.category).sum ≤ 8) (hd : decode cc pc = .ok (.invokestatic index, 3)) (kk : Sim p l e R s m args below meth c w lo hi O nL A cs sl Q r0 (pc + 3) lv (.int (if y < x then y else x) :: st) M X K) : Sim p l e R s m args below meth c w lo hi O nL A cs sl Q r0 pc lv (.int y :: .int x :: st) M X K := by
  intro hx H locs ls hl hP hS
  have hfr : 1 ≤ R.frames := Nat.le_trans hD G.2.2.2.2.2.2.2.2.2.2.2.2.2.2.1
  have hlo : (st.map fun v => v.category).sum + 13 ≤ R.locals := by
    have h9 := G.2.2.2.2.2.2.2.2.2.2.2.2.2.2.2
    omega
  exact va_mmin G.1 G.2.1 (by rw [G.2.2.1]; exact hl.1.symm) G.2.2.2.1 (G.2.2.2.2.1 _ (List.mem_of_getElem? q1) rfl) (G.2.2.2.2.1 _ (List.mem_of_getElem? q2) rfl) (G.2.2.2.2.1 _ (List.mem_of_getElem? q3) rfl) (G.2.2.2.2.1 _ (List.mem_of_getElem? q4) rfl) hfr hlo G.2.2.2.2.2.2.2.2.2.2.2.2.1 G.2.2.2.2.2.2.2.2.2.2.2.2.2.1 hd (kk hx H locs ls hl hP hS)
theorem s_mabs (G : Ok p s m args meth c w cc nL own ret hi R A cs sl D) {index i1 i2 i3 i4 : Nat} {x : Int32} (q1 : lw_tbl[i1]? = some (.methodLink own index Lib.Math.abs.name)) (q2 : lw_tbl[i2]? = some (.static Lib.Math.abs.name)) (q3 : lw_tbl[i3]? = some (.initialized "java/lang/Math")) (q4 : lw_tbl[i4]? = some (.code Lib.Math.abs.name Lib.Math.abs.code 1 (some .int))) (hD : 1 ≤ D) (hw : (st.map fun v => v.category).sum ≤ 8) (hd : decode cc pc = .ok (.invokestatic index, 3)) (kk : Sim p l e R s m args below meth c w lo hi O nL A cs sl Q r0 (pc + 3) lv (.int (if 0 ≤ x then x else 0 - x) :: st) M X K) : Sim p l e R s m args below meth c w lo hi O nL A cs sl Q r0 pc lv (.int x :: st) M X K := by
  intro hx H locs ls hl hP hS
  have hfr : 1 ≤ R.frames := Nat.le_trans hD G.2.2.2.2.2.2.2.2.2.2.2.2.2.2.1
  have hlo : (st.map fun v => v.category).sum + 13 ≤ R.locals := by
    have h9 := G.2.2.2.2.2.2.2.2.2.2.2.2.2.2.2
    omega
  exact va_mabs G.1 G.2.1 (by rw [G.2.2.1]; exact hl.1.symm) G.2.2.2.1 (G.2.2.2.2.1 _ (List.mem_of_getElem? q1) rfl) (G.2.2.2.2.1 _ (List.mem_of_getElem? q2) rfl) (G.2.2.2.2.1 _ (List.mem_of_getElem? q3) rfl) (G.2.2.2.2.1 _ (List.mem_of_getElem? q4) rfl) hfr hlo G.2.2.2.2.2.2.2.2.2.2.2.2.1 G.2.2.2.2.2.2.2.2.2.2.2.2.2.1 hd (kk hx H locs ls hl hP hS)
/-- behind a call: what came back -/
theorem call_at {rest st0 : List Value} {r : Option Value × Mem} {as : Array Value} (G : Ok p s m args meth c w cc nL own ret hi R A cs sl D) {H : Heap} {locs : List Loc} {ls : Array Slot} (hl : lvH ls nL lv) (hS : va_S A s.heap H locs) (hr : va_Run p l e R s m args below meth c H locs cs sl 0 0 (F0 m pc ls st0) rest (PostM w lo hi O r as) (Aw w)) (k : AtP p l e R s m args below meth c w lo hi O nL A cs sl Q (pc + 3) lv (r.1.toList ++ rest) r.2) : W p l e R s m args below meth c H locs cs sl Q (F0 m pc ls st0) := by
  intro T hT Y
  obtain ⟨v, st₀, t, T', L, h0, X', hL, e1, e2, ⟨hv, hb, hz, hk⟩, stp⟩ := hr T hT Y
  rw [h0] at hz hk
  cases hv
  have hS2 : va_S A s.heap T'.heap (locs ++ L) := by
    refine ⟨Nat.le_trans hS.1 (by rw [e1]; exact hz), fun q h1 h2 => ?_, fun q hq => ?_⟩
    · rw [e1, hk q (Nat.lt_of_lt_of_le h1 hS.1) (fun z => h2 (G.2.2.2.2.2.2.2.2.2.2.2.1 q z))]
      exact hS.2.1 q h1 h2
    · rcases List.mem_append.mp hq with h | h
      · exact hS.2.2 q h
      · exact G.2.2.2.2.2.2.2.2.2.2.2.1 _ (hL q h)
  obtain ⟨t2, a1, b1⟩ := k T'.heap (locs ++ L) ls hl (by rw [e1]; exact hb) hS2 T' rfl X'
  exact ⟨t2, stp t2 a1, b1⟩
theorem pre_at (G : Ok p s m args meth c w cc nL own ret hi R A cs sl D) {H : Heap} {locs : List Loc} {as : List Value} (hP : va_P w.2.2.1 vwCl (wd w lo hi O M) H) (hS : va_S A s.heap H locs) (hAw : ∀ q, A q → q < s.heap.size → Aw w q) : ∀ U : State, U.heap = H → s.WarmedH U.vm → PreM w lo hi O as M as.toArray U := by
  intro U hU hW
  refine ⟨rfl, by rw [hU]; exact hP, Kf.warm hW G.2.2.2.2.2.1, ?_, G.2.2.2.2.2.2.2.1, G.2.2.2.2.2.2.2.2.2.2.1⟩
  rw [hU]
  exact ((G.2.2.2.2.2.2.1).kept (fun a h1 h2 => hS.2.1 a h1 (fun z => h2 (hAw a z h1)))).moved hW.alike
theorem s_callV (G : Ok p s m args meth c w cc nL own ret hi R A cs sl D) (hAw : ∀ q, A q → q < s.heap.size → Aw w q) {μ : Md} {n d k ci N index i1 : Nat} {fs : (Nat → Int32) → List Value} {C : String} {T : u_T} {ty : Nat → FieldType} {as st0 : List Value} {γ : Type} {y : Option γ} {f : γ → Option α} (toV : γ → Option Value) (toM : γ → Mem) (hm : MdV μ n) (hC : ∀ z, y = some z → Ct w lo hi O l d μ (.ref (w.1 k) :: as) M (toV z, toM z)) (hr : lo ≤ k ∧ k < hi) (hce : ∀ f g, ce w k f g = .inr (ci, fs f)) (cl : ClOk ci C T N ty) (hcl : μ.1.cls = C) (q1 : lw_tbl[i1]? = some (.methodLink own index μ.1)) (hn : as.length = n) (hst : st0 = as.reverse ++ .ref (w.1 k) :: st) (hw : (st.map fun v => v.category).sum ≤ 8) (hdD : d < D) (hd : decode cc pc = .ok (.invokevirtual index, 3)) (kk : ∀ z, Sim p l e R s m args below meth c w lo hi O nL A cs sl Q r0 (pc + 3) lv ((toV z).toList ++ st) (toM z) (f z) K) : Sim p l e R s m args below meth c w lo hi O nL A cs sl Q r0 pc lv st0 M (Option.bind y f) K := by
  intro hx H locs ls hl hP hS
  cases hy : y with
  | none => rw [hy] at hx; simp at hx
  | some z =>
    rw [hy] at hx
    have hg := wd_get w O M hr G.2.2.2.2.2.2.2.2.2.2.1
    rw [hce] at hg
    subst hst
    subst hcl
    have hts : ∀ x ∈ lw_tbl.filter goodWord, x.before args s = true := fun x h => G.2.2.2.2.1 x (List.mem_filter.mp h).1 (List.mem_filter.mp h).2
    refine call_at G hl hS (va_runV (Ts := lw_tbl.filter goodWord) ⟨G.1, G.2.1, G.2.2.1, G.2.2.2.1, hts⟩ (hC z hy) (C := μ.1.cls) (index := index) (bytes := μ.2.1) (maxL := μ.2.2.1) (ret := μ.2.2.2) (n := n) ⟨callB_of n hts (good_wsM hm.1.1) rfl rfl rfl (G.2.2.2.2.1 _ hm.1.2.1 rfl) (G.2.2.2.2.1 _ (List.mem_of_getElem? q1) rfl) hm.1.2.2.1 ?_, G.2.2.2.2.1 _ hm.2.1 rfl, G.2.2.2.2.1 _ hm.2.2 rfl⟩ ⟨blind_PreM w lo hi O (.ref (w.1 k) :: as) M, va_recv G.2.2.2.2.2.1.1 hP (ci := ci) (q0 := k) cl.1 hg, pre_at G hP hS hAw⟩ rfl hn hl.1 rfl (lv_room hw) hd ⟨G.2.2.2.2.2.2.2.2.2.2.2.2.1, G.2.2.2.2.2.2.2.2.2.2.2.2.2.1⟩) (kk z hx)
    have h1 := G.2.2.2.2.2.2.2.2.2.2.2.2.2.2.1
    have h2 := G.2.2.2.2.2.2.2.2.2.2.2.2.2.2.2
    have h3 := hm.1.2.2.2
    constructor
    · show d + 1 ≤ _
      omega
    · show 8 + (μ.2.2.1 + 11) + 64 * d ≤ _
      omega
theorem s_callS (G : Ok p s m args meth c w cc nL own ret hi R A cs sl D) (hAw : ∀ q, A q → q < s.heap.size → Aw w q) {μ : Md} {n d index : Nat} {as st0 : List Value} {γ : Type} {y : Option γ} {f : γ → Option α} (toV : γ → Option Value) (toM : γ → Mem) (hm : MdS μ n) (hC : ∀ z, y = some z → Ct w lo hi O l d μ as M (toV z, toM z)) {i1 : Nat} (q1 : lw_tbl[i1]? = some (.methodLink own index μ.1)) (hn : as.length = n) (hst : st0 = as.reverse ++ st) (hw : (st.map fun v => v.category).sum ≤ 8) (hdD : d < D) (hd : decode cc pc = .ok (.invokestatic index, 3)) (kk : ∀ z, Sim p l e R s m args below meth c w lo hi O nL A cs sl Q r0 (pc + 3) lv ((toV z).toList ++ st) (toM z) (f z) K) : Sim p l e R s m args below meth c w lo hi O nL A cs sl Q r0 pc lv st0 M (Option.bind y f) K := by
  intro hx H locs ls hl hP hS
  cases hy : y with
  | none => rw [hy] at hx; simp at hx
  | some z =>
    rw [hy] at hx
    subst hst
    have hts : ∀ x ∈ lw_tbl.filter goodWord, x.before args s = true := fun x h => G.2.2.2.2.1 x (List.mem_filter.mp h).1 (List.mem_filter.mp h).2
    refine call_at G hl hS (va_runS (Ts := lw_tbl.filter goodWord) ⟨G.1, G.2.1, G.2.2.1, G.2.2.2.1, hts⟩ (hC z hy) (index := index) (bytes := μ.2.1) (maxL := μ.2.2.1) (ret := μ.2.2.2) (n := n) ⟨callB_of n hts (good_wsM hm.1.1) rfl rfl rfl (G.2.2.2.2.1 _ hm.1.2.1 rfl) (G.2.2.2.2.1 _ (List.mem_of_getElem? q1) rfl) hm.1.2.2.1 ?_, G.2.2.2.2.1 _ hm.2 rfl⟩ ⟨blind_PreM w lo hi O as M, pre_at G hP hS hAw⟩ rfl hn hl.1 rfl (lv_room hw) hd ⟨G.2.2.2.2.2.2.2.2.2.2.2.2.1, G.2.2.2.2.2.2.2.2.2.2.2.2.2.1⟩) (kk z hx)
    have h1 := G.2.2.2.2.2.2.2.2.2.2.2.2.2.2.1
    have h2 := G.2.2.2.2.2.2.2.2.2.2.2.2.2.2.2
    have h3 := hm.1.2.2.2
    constructor
    · show d + 1 ≤ _
      omega
    · show 8 + (μ.2.2.1 + 11) + 64 * d ≤ _
      omega
theorem s_callSN (G : Ok p s m args meth c w cc nL own ret hi R A cs sl D) (hAw : ∀ q, A q → q < s.heap.size → Aw w q) {μ : Md} {n d index : Nat} {as st0 : List Value} {γ : Type} {y : Option γ} {f : γ → Option α} (toV : γ → Option Value) (toM : γ → Mem) (hm : MdS μ n) (hC : ∀ z, y = some z → Ct w lo hi O l d μ as M (toV z, toM z)) (hnw : (own, index, μ.1) ∈ nwL) (hn : as.length = n) (hst : st0 = as.reverse ++ st) (hw : (st.map fun v => v.category).sum ≤ 8) (hdD : d < D) (hd : decode cc pc = .ok (.invokestatic index, 3)) (kk : ∀ z, Sim p l e R s m args below meth c w lo hi O nL A cs sl Q r0 (pc + 3) lv ((toV z).toList ++ st) (toM z) (f z) K) : Sim p l e R s m args below meth c w lo hi O nL A cs sl Q r0 pc lv st0 M (Option.bind y f) K := by
  intro hx H locs ls hl hP hS
  cases hy : y with
  | none => rw [hy] at hx; simp at hx
  | some z =>
    rw [hy] at hx
    subst hst
    have hts : ∀ x ∈ lw_tbl.filter goodWord, x.before args s = true := fun x h => G.2.2.2.2.1 x (List.mem_filter.mp h).1 (List.mem_filter.mp h).2
    refine call_at G hl hS (va_runSN (Ts := lw_tbl.filter goodWord) (host := "HangerRail") ⟨G.1, G.2.1, G.2.2.1, G.2.2.2.1, hts⟩ (hC z hy) (index := index) (bytes := μ.2.1) (maxL := μ.2.2.1) (ret := μ.2.2.2) (n := n) ⟨va_cnB n hts (good_wsM hm.1.1) rfl rfl rfl (G.2.2.2.2.2.1.2.1 _ hnw) (G.2.2.2.2.1 _ hm.1.2.1 rfl) hm.1.2.2.1 ?_, G.2.2.2.2.1 _ hm.2 rfl, trivial⟩ ⟨blind_PreM w lo hi O as M, pre_at G hP hS hAw⟩ rfl hn hl.1 rfl (lv_room hw) hd ⟨G.2.2.2.2.2.2.2.2.2.2.2.2.1, G.2.2.2.2.2.2.2.2.2.2.2.2.2.1⟩) (kk z hx)
    have h1 := G.2.2.2.2.2.2.2.2.2.2.2.2.2.2.1
    have h2 := G.2.2.2.2.2.2.2.2.2.2.2.2.2.2.2
    have h3 := hm.1.2.2.2
    constructor
    · show d + 1 ≤ _
      omega
    · show 8 + (μ.2.2.1 + 11) + 64 * d ≤ _
      omega
end SIM2
section SIM3
variable {p : Program} {l : Launch} {e : Env} {R : Room} {s : State} {m : MethodId} {args : Array Value} {below : List Frame} {meth : Method} {c : Code} {w : Wx} {lo hi : Nat} {O : Mem} {nL : Nat} {α : Type} {r0 : Option Value × Mem} {cc : ByteArray} {own : String} {ret : Option FieldType} {D pc : Nat} {lv : List (Option Value)} {M : Mem} {K : α → Option (Option Value × Mem)} {y : α}

theorem s_iret (G : Ok p s m args meth c w cc nL own ret hi R (Aw w) 0 0 D) {v : Int32} (hret : ret = some .int) (hk : K y = some (some (.int v), M)) (hd : decode cc pc = .ok (.ireturn, 1)) : Sim p l e R s m args below meth c w lo hi O nL (Aw w) 0 0 (MQ below (PostM w lo hi O r0) args s 0 0 (Aw w)) r0 pc lv [.int v] M (some y) K := by
  intro hx H locs ls hl hP hS
  have hx : K y = some r0 := hx
  rw [hk] at hx
  cases hx
  exact W.iret (hlocks := G.2.2.2.2.2.2.2.2.1) G.1 G.2.1 (G.2.2.2.2.2.2.2.2.2.1.trans hret) (fun t ht hW => ⟨rfl, by rw [ht]; exact hP, hS.F ht⟩) hS.2.2 hd
theorem s_zret (G : Ok p s m args meth c w cc nL own ret hi R (Aw w) 0 0 D) {v : Int32} {ty : FieldType} (hret : ret = some ty) (hn : narrow ty (.int v) = .int v) (hk : K y = some (some (.int v), M)) (hd : decode cc pc = .ok (.ireturn, 1)) : Sim p l e R s m args below meth c w lo hi O nL (Aw w) 0 0 (MQ below (PostM w lo hi O r0) args s 0 0 (Aw w)) r0 pc lv [.int v] M (some y) K := by
  intro hx H locs ls hl hP hS
  have hx : K y = some r0 := hx
  rw [hk] at hx
  cases hx
  exact W.zret (hlocks := G.2.2.2.2.2.2.2.2.1) G.1 G.2.1 (G.2.2.2.2.2.2.2.2.2.1.trans hret) hn (fun t ht hW => ⟨rfl, by rw [ht]; exact hP, hS.F ht⟩) hS.2.2 hd
theorem s_lret (G : Ok p s m args meth c w cc nL own ret hi R (Aw w) 0 0 D) {v : Int64} (hret : ret = some .long) (hk : K y = some (some (.long v), M)) (hd : decode cc pc = .ok (.lreturn, 1)) : Sim p l e R s m args below meth c w lo hi O nL (Aw w) 0 0 (MQ below (PostM w lo hi O r0) args s 0 0 (Aw w)) r0 pc lv [.long v] M (some y) K := by
  intro hx H locs ls hl hP hS
  have hx : K y = some r0 := hx
  rw [hk] at hx
  cases hx
  exact W.lret (hlocks := G.2.2.2.2.2.2.2.2.1) G.1 G.2.1 (G.2.2.2.2.2.2.2.2.2.1.trans hret) (fun t ht hW => ⟨rfl, by rw [ht]; exact hP, hS.F ht⟩) hS.2.2 hd
theorem s_vret (G : Ok p s m args meth c w cc nL own ret hi R (Aw w) 0 0 D) (hret : ret = none) (hk : K y = some (none, M)) (hd : decode cc pc = .ok (.return_, 1)) : Sim p l e R s m args below meth c w lo hi O nL (Aw w) 0 0 (MQ below (PostM w lo hi O r0) args s 0 0 (Aw w)) r0 pc lv [] M (some y) K := by
  intro hx H locs ls hl hP hS
  have hx : K y = some r0 := hx
  rw [hk] at hx
  cases hx
  exact W.vret (hlocks := G.2.2.2.2.2.2.2.2.1) G.1 G.2.1 (G.2.2.2.2.2.2.2.2.2.1.trans hret) (fun t ht hW => ⟨rfl, by rw [ht]; exact hP, hS.F ht⟩) hS.2.2 hd
theorem s_aret (G : Ok p s m args meth c w cc nL own ret hi R (Aw w) 0 0 D) {a : Nat} {nm : String} (hret : ret = some (.object nm)) (hk : K y = some (some (.ref a), M)) (hd : decode cc pc = .ok (.areturn, 1)) : Sim p l e R s m args below meth c w lo hi O nL (Aw w) 0 0 (MQ below (PostM w lo hi O r0) args s 0 0 (Aw w)) r0 pc lv [.ref a] M (some y) K := by
  intro hx H locs ls hl hP hS
  have hx : K y = some r0 := hx
  rw [hk] at hx
  cases hx
  exact W.aret (hlocks := G.2.2.2.2.2.2.2.2.1) G.1 G.2.1 (G.2.2.2.2.2.2.2.2.2.1.trans hret) (Or.inl ⟨_, rfl⟩) (Or.inr ⟨_, rfl⟩) (fun t ht hW => ⟨rfl, by rw [ht]; exact hP, hS.F ht⟩) hS.2.2 hd
theorem ct_of {d : Nat} {μ : Md} {as : List Value} {X : Option α} (lv : List (Option Value)) (hy : plainName μ.1.cls = true) (hlv : lvl 0 lv = lv_args 0 as) (hn : (lg_sl as).length ≤ μ.2.2.1) (hX : X.bind K = some r0) (body : ∀ (p : Program) (e : Env) (s : State) (m : MethodId) (args : Array Value) (below : List Frame) (meth : Method) (c : Code), Ok p s m args meth c w μ.2.1 μ.2.2.1 μ.1.cls μ.2.2.2 hi (rl d) (Aw w) 0 0 d → Sim p l e (rl d) s m args below meth c w lo hi O μ.2.2.1 (Aw w) 0 0 (MQ below (PostM w lo hi O r0) args s 0 0 (Aw w)) r0 0 lv [] M X K) : Ct w lo hi O l d μ as M r0 := by
  refine Met.ofW (cc := μ.2.1) (maxL := μ.2.2.1) (ret := μ.2.2.2) hy rfl ?_
  intro p e s m args below meth c s₁ B hml hv
  obtain ⟨rfl, hP, hK, hSx, hAp, h48⟩ := hv
  have hts := atoms_spec (ws := wsM μ) B.pre
  have hl := lv_entry as (n := μ.2.2.1) hn
  rw [lg_entry_eq]
  generalize (lg_sl as ++ List.replicate (μ.2.2.1 - (lg_sl as).length) Slot.unset).toArray = ls at hl ⊢
  rw [← hlv] at hl
  exact body p e s m as.toArray below meth c ⟨B.exec, B.bytes, hml, findClass_of_methodNamed B.named, fun x h hg => hts x (List.mem_cons_of_mem _ (List.mem_filter.mpr ⟨h, hg⟩)), hK, hSx, hAp, B.notSynchronized, B.returns, h48, fun _ h => h, Nat.le_refl 0, Nat.le_refl 0, Nat.le_refl _, Nat.le_refl _⟩ hX s.heap [] ls (lvH_of hl) hP va_S.rf
end SIM3
theorem zb_nar {v : Int32} (h : zb v) : narrow .boolean (.int v) = .int v := by
  rcases h with rfl | rfl <;> rfl
theorem zb_fit {v : Int32} (h : zb v) : fits .boolean (.int v) = true := by
  rcases h with rfl | rfl <;> rfl
theorem aw_self {w : Wx} {s : State} : ∀ q, Aw w q → q < s.heap.size → Aw w q := fun _ h _ => h
end
