section
-- ===== PART A: goes FIRST, ahead of the names: the tables' words, and 'selects' of the private methods out of them =====
/-- a private method of a class that the tables say can be made, by its rows of tables_1 -/
def lw_okq (q : MethodName × Nat) : Prop := (q.1.cls ≠ "java/lang/invoke/MethodHandle" ∧ q.1.cls ≠ "java/lang/invoke/VarHandle") ∧ Cond.instantiable q.1.cls q.2 ∈ tables_1 ∧ Cond.privateMethod q.1 ∈ tables_1 ∧ Cond.instanceMethod q.1 ∈ tables_1
theorem lw_p0 : lw_okq (⟨"HaggleWash$History", "dropOldest", "()V"⟩, 2) := ⟨⟨by decide +kernel, by decide +kernel⟩, List.mem_of_getElem? (i := 210) (by decide +kernel), List.mem_of_getElem? (i := 294) (by decide +kernel), List.mem_of_getElem? (i := 295) (by decide +kernel)⟩
theorem lw_p1 : lw_okq (⟨"HaggleWash$HeatSplit", "lowestWanting", "()I"⟩, 3) := ⟨⟨by decide +kernel, by decide +kernel⟩, List.mem_of_getElem? (i := 227) (by decide +kernel), List.mem_of_getElem? (i := 417) (by decide +kernel), List.mem_of_getElem? (i := 418) (by decide +kernel)⟩
theorem lw_p2 : lw_okq (⟨"HaggleWash$HeatSplit", "isWanting", "(I)Z"⟩, 3) := ⟨⟨by decide +kernel, by decide +kernel⟩, List.mem_of_getElem? (i := 227) (by decide +kernel), List.mem_of_getElem? (i := 421) (by decide +kernel), List.mem_of_getElem? (i := 422) (by decide +kernel)⟩
theorem lw_p3 : lw_okq (⟨"HaggleWash$HeatSplit", "sharesOfWanting", "()I"⟩, 3) := ⟨⟨by decide +kernel, by decide +kernel⟩, List.mem_of_getElem? (i := 227) (by decide +kernel), List.mem_of_getElem? (i := 425) (by decide +kernel), List.mem_of_getElem? (i := 426) (by decide +kernel)⟩
theorem lw_p4 : lw_okq (⟨"HaggleWash$HeatSplit", "giveParts", "(II)I"⟩, 3) := ⟨⟨by decide +kernel, by decide +kernel⟩, List.mem_of_getElem? (i := 227) (by decide +kernel), List.mem_of_getElem? (i := 429) (by decide +kernel), List.mem_of_getElem? (i := 430) (by decide +kernel)⟩
theorem lw_p5 : lw_okq (⟨"HaggleWash$HeatSplit", "giveLowest", "(III)I"⟩, 3) := ⟨⟨by decide +kernel, by decide +kernel⟩, List.mem_of_getElem? (i := 227) (by decide +kernel), List.mem_of_getElem? (i := 434) (by decide +kernel), List.mem_of_getElem? (i := 435) (by decide +kernel)⟩
theorem lw_p6 : lw_okq (⟨"HaggleWash$ProgramText", "separators", "()I"⟩, 2) := ⟨⟨by decide +kernel, by decide +kernel⟩, List.mem_of_getElem? (i := 247) (by decide +kernel), List.mem_of_getElem? (i := 522) (by decide +kernel), List.mem_of_getElem? (i := 523) (by decide +kernel)⟩
theorem lw_p7 : lw_okq (⟨"HaggleWashModel", "record", "()V"⟩, 13) := ⟨⟨by decide +kernel, by decide +kernel⟩, List.mem_of_getElem? (i := 692) (by decide +kernel), List.mem_of_getElem? (i := 745) (by decide +kernel), List.mem_of_getElem? (i := 746) (by decide +kernel)⟩
theorem lw_p8 : lw_okq (⟨"HaggleWashModel", "setPart", "(III)V"⟩, 13) := ⟨⟨by decide +kernel, by decide +kernel⟩, List.mem_of_getElem? (i := 692) (by decide +kernel), List.mem_of_getElem? (i := 752) (by decide +kernel), List.mem_of_getElem? (i := 753) (by decide +kernel)⟩
theorem lw_p9 : lw_okq (⟨"HaggleWashModel", "isTooHot", "(I)Z"⟩, 13) := ⟨⟨by decide +kernel, by decide +kernel⟩, List.mem_of_getElem? (i := 692) (by decide +kernel), List.mem_of_getElem? (i := 764) (by decide +kernel), List.mem_of_getElem? (i := 765) (by decide +kernel)⟩
theorem lw_p10 : lw_okq (⟨"HaggleWashModel", "part", "(II)I"⟩, 13) := ⟨⟨by decide +kernel, by decide +kernel⟩, List.mem_of_getElem? (i := 692) (by decide +kernel), List.mem_of_getElem? (i := 768) (by decide +kernel), List.mem_of_getElem? (i := 769) (by decide +kernel)⟩
theorem lw_p11 : lw_okq (⟨"HaggleWashModel", "temperature", "(I)I"⟩, 13) := ⟨⟨by decide +kernel, by decide +kernel⟩, List.mem_of_getElem? (i := 692) (by decide +kernel), List.mem_of_getElem? (i := 772) (by decide +kernel), List.mem_of_getElem? (i := 773) (by decide +kernel)⟩
theorem lw_p12 : lw_okq (⟨"HaggleWashModel", "runs", "(I)Z"⟩, 13) := ⟨⟨by decide +kernel, by decide +kernel⟩, List.mem_of_getElem? (i := 692) (by decide +kernel), List.mem_of_getElem? (i := 780) (by decide +kernel), List.mem_of_getElem? (i := 781) (by decide +kernel)⟩
theorem lw_p13 : lw_okq (⟨"HaggleWashModel", "kindOf", "(I)I"⟩, 13) := ⟨⟨by decide +kernel, by decide +kernel⟩, List.mem_of_getElem? (i := 692) (by decide +kernel), List.mem_of_getElem? (i := 784) (by decide +kernel), List.mem_of_getElem? (i := 785) (by decide +kernel)⟩
theorem lw_p14 : lw_okq (⟨"HaggleWashModel", "washersIn", "(I)I"⟩, 13) := ⟨⟨by decide +kernel, by decide +kernel⟩, List.mem_of_getElem? (i := 692) (by decide +kernel), List.mem_of_getElem? (i := 788) (by decide +kernel), List.mem_of_getElem? (i := 789) (by decide +kernel)⟩
theorem lw_p15 : lw_okq (⟨"HaggleWashModel", "minute", "()I"⟩, 13) := ⟨⟨by decide +kernel, by decide +kernel⟩, List.mem_of_getElem? (i := 692) (by decide +kernel), List.mem_of_getElem? (i := 796) (by decide +kernel), List.mem_of_getElem? (i := 797) (by decide +kernel)⟩
def lw_privs_1 : List (MethodName × Nat) := [(⟨"HaggleWash$History", "dropOldest", "()V"⟩, 2), (⟨"HaggleWash$HeatSplit", "lowestWanting", "()I"⟩, 3), (⟨"HaggleWash$HeatSplit", "isWanting", "(I)Z"⟩, 3), (⟨"HaggleWash$HeatSplit", "sharesOfWanting", "()I"⟩, 3), (⟨"HaggleWash$HeatSplit", "giveParts", "(II)I"⟩, 3), (⟨"HaggleWash$HeatSplit", "giveLowest", "(III)I"⟩, 3), (⟨"HaggleWash$ProgramText", "separators", "()I"⟩, 2), (⟨"HaggleWashModel", "record", "()V"⟩, 13), (⟨"HaggleWashModel", "setPart", "(III)V"⟩, 13), (⟨"HaggleWashModel", "isTooHot", "(I)Z"⟩, 13), (⟨"HaggleWashModel", "part", "(II)I"⟩, 13), (⟨"HaggleWashModel", "temperature", "(I)I"⟩, 13), (⟨"HaggleWashModel", "runs", "(I)Z"⟩, 13), (⟨"HaggleWashModel", "kindOf", "(I)I"⟩, 13), (⟨"HaggleWashModel", "washersIn", "(I)I"⟩, 13), (⟨"HaggleWashModel", "minute", "()I"⟩, 13)]
theorem lw_r1 : ∀ q ∈ lw_privs_1, lw_okq q := List.forall_mem_cons.mpr ⟨lw_p0, List.forall_mem_cons.mpr ⟨lw_p1, List.forall_mem_cons.mpr ⟨lw_p2, List.forall_mem_cons.mpr ⟨lw_p3, List.forall_mem_cons.mpr ⟨lw_p4, List.forall_mem_cons.mpr ⟨lw_p5, List.forall_mem_cons.mpr ⟨lw_p6, List.forall_mem_cons.mpr ⟨lw_p7, List.forall_mem_cons.mpr ⟨lw_p8, List.forall_mem_cons.mpr ⟨lw_p9, List.forall_mem_cons.mpr ⟨lw_p10, List.forall_mem_cons.mpr ⟨lw_p11, List.forall_mem_cons.mpr ⟨lw_p12, List.forall_mem_cons.mpr ⟨lw_p13, List.forall_mem_cons.mpr ⟨lw_p14, List.forall_mem_cons.mpr ⟨lw_p15, fun _ h => absurd h List.not_mem_nil⟩⟩⟩⟩⟩⟩⟩⟩⟩⟩⟩⟩⟩⟩⟩⟩
theorem lw_p16 : lw_okq (⟨"HaggleWashModel", "powered", "()I"⟩, 13) := ⟨⟨by decide +kernel, by decide +kernel⟩, List.mem_of_getElem? (i := 692) (by decide +kernel), List.mem_of_getElem? (i := 800) (by decide +kernel), List.mem_of_getElem? (i := 801) (by decide +kernel)⟩
theorem lw_p17 : lw_okq (⟨"HaggleWashModel", "fillStore", "()V"⟩, 13) := ⟨⟨by decide +kernel, by decide +kernel⟩, List.mem_of_getElem? (i := 692) (by decide +kernel), List.mem_of_getElem? (i := 804) (by decide +kernel), List.mem_of_getElem? (i := 805) (by decide +kernel)⟩
theorem lw_p18 : lw_okq (⟨"HaggleWashModel", "heatNow", "()I"⟩, 13) := ⟨⟨by decide +kernel, by decide +kernel⟩, List.mem_of_getElem? (i := 692) (by decide +kernel), List.mem_of_getElem? (i := 808) (by decide +kernel), List.mem_of_getElem? (i := 809) (by decide +kernel)⟩
theorem lw_p19 : lw_okq (⟨"HaggleWashModel", "split", "(I)I"⟩, 13) := ⟨⟨by decide +kernel, by decide +kernel⟩, List.mem_of_getElem? (i := 692) (by decide +kernel), List.mem_of_getElem? (i := 812) (by decide +kernel), List.mem_of_getElem? (i := 813) (by decide +kernel)⟩
theorem lw_p20 : lw_okq (⟨"HaggleWashModel", "wantOf", "(I)I"⟩, 13) := ⟨⟨by decide +kernel, by decide +kernel⟩, List.mem_of_getElem? (i := 692) (by decide +kernel), List.mem_of_getElem? (i := 816) (by decide +kernel), List.mem_of_getElem? (i := 817) (by decide +kernel)⟩
theorem lw_p21 : lw_okq (⟨"HaggleWashModel", "numberOf", "(I)I"⟩, 13) := ⟨⟨by decide +kernel, by decide +kernel⟩, List.mem_of_getElem? (i := 692) (by decide +kernel), List.mem_of_getElem? (i := 820) (by decide +kernel), List.mem_of_getElem? (i := 821) (by decide +kernel)⟩
theorem lw_p22 : lw_okq (⟨"HaggleWashModel", "wantingShares", "()I"⟩, 13) := ⟨⟨by decide +kernel, by decide +kernel⟩, List.mem_of_getElem? (i := 692) (by decide +kernel), List.mem_of_getElem? (i := 824) (by decide +kernel), List.mem_of_getElem? (i := 825) (by decide +kernel)⟩
theorem lw_p23 : lw_okq (⟨"HaggleWashModel", "sharesOf", "(I)I"⟩, 13) := ⟨⟨by decide +kernel, by decide +kernel⟩, List.mem_of_getElem? (i := 692) (by decide +kernel), List.mem_of_getElem? (i := 828) (by decide +kernel), List.mem_of_getElem? (i := 829) (by decide +kernel)⟩
theorem lw_p24 : lw_okq (⟨"HaggleWashModel", "lent", "(I)I"⟩, 13) := ⟨⟨by decide +kernel, by decide +kernel⟩, List.mem_of_getElem? (i := 692) (by decide +kernel), List.mem_of_getElem? (i := 832) (by decide +kernel), List.mem_of_getElem? (i := 833) (by decide +kernel)⟩
theorem lw_p25 : lw_okq (⟨"HaggleWashModel", "leasePart", "(II)I"⟩, 13) := ⟨⟨by decide +kernel, by decide +kernel⟩, List.mem_of_getElem? (i := 692) (by decide +kernel), List.mem_of_getElem? (i := 836) (by decide +kernel), List.mem_of_getElem? (i := 837) (by decide +kernel)⟩
theorem lw_p26 : lw_okq (⟨"HaggleWashModel", "addPart", "(III)V"⟩, 13) := ⟨⟨by decide +kernel, by decide +kernel⟩, List.mem_of_getElem? (i := 692) (by decide +kernel), List.mem_of_getElem? (i := 840) (by decide +kernel), List.mem_of_getElem? (i := 841) (by decide +kernel)⟩
theorem lw_p27 : lw_okq (⟨"HaggleWashModel", "works", "(I)V"⟩, 13) := ⟨⟨by decide +kernel, by decide +kernel⟩, List.mem_of_getElem? (i := 692) (by decide +kernel), List.mem_of_getElem? (i := 844) (by decide +kernel), List.mem_of_getElem? (i := 845) (by decide +kernel)⟩
theorem lw_p28 : lw_okq (⟨"HaggleWashModel", "fills", "(I)V"⟩, 13) := ⟨⟨by decide +kernel, by decide +kernel⟩, List.mem_of_getElem? (i := 692) (by decide +kernel), List.mem_of_getElem? (i := 848) (by decide +kernel), List.mem_of_getElem? (i := 849) (by decide +kernel)⟩
theorem lw_p29 : lw_okq (⟨"HaggleWashModel", "drains", "(I)V"⟩, 13) := ⟨⟨by decide +kernel, by decide +kernel⟩, List.mem_of_getElem? (i := 692) (by decide +kernel), List.mem_of_getElem? (i := 852) (by decide +kernel), List.mem_of_getElem? (i := 853) (by decide +kernel)⟩
theorem lw_p30 : lw_okq (⟨"HaggleWashModel", "isOver", "(I)Z"⟩, 13) := ⟨⟨by decide +kernel, by decide +kernel⟩, List.mem_of_getElem? (i := 692) (by decide +kernel), List.mem_of_getElem? (i := 856) (by decide +kernel), List.mem_of_getElem? (i := 857) (by decide +kernel)⟩
theorem lw_p31 : lw_okq (⟨"HaggleWashModel", "beginPhase", "(II)V"⟩, 13) := ⟨⟨by decide +kernel, by decide +kernel⟩, List.mem_of_getElem? (i := 692) (by decide +kernel), List.mem_of_getElem? (i := 860) (by decide +kernel), List.mem_of_getElem? (i := 861) (by decide +kernel)⟩
def lw_privs_2 : List (MethodName × Nat) := [(⟨"HaggleWashModel", "powered", "()I"⟩, 13), (⟨"HaggleWashModel", "fillStore", "()V"⟩, 13), (⟨"HaggleWashModel", "heatNow", "()I"⟩, 13), (⟨"HaggleWashModel", "split", "(I)I"⟩, 13), (⟨"HaggleWashModel", "wantOf", "(I)I"⟩, 13), (⟨"HaggleWashModel", "numberOf", "(I)I"⟩, 13), (⟨"HaggleWashModel", "wantingShares", "()I"⟩, 13), (⟨"HaggleWashModel", "sharesOf", "(I)I"⟩, 13), (⟨"HaggleWashModel", "lent", "(I)I"⟩, 13), (⟨"HaggleWashModel", "leasePart", "(II)I"⟩, 13), (⟨"HaggleWashModel", "addPart", "(III)V"⟩, 13), (⟨"HaggleWashModel", "works", "(I)V"⟩, 13), (⟨"HaggleWashModel", "fills", "(I)V"⟩, 13), (⟨"HaggleWashModel", "drains", "(I)V"⟩, 13), (⟨"HaggleWashModel", "isOver", "(I)Z"⟩, 13), (⟨"HaggleWashModel", "beginPhase", "(II)V"⟩, 13)]
theorem lw_r2 : ∀ q ∈ lw_privs_2, lw_okq q := List.forall_mem_cons.mpr ⟨lw_p16, List.forall_mem_cons.mpr ⟨lw_p17, List.forall_mem_cons.mpr ⟨lw_p18, List.forall_mem_cons.mpr ⟨lw_p19, List.forall_mem_cons.mpr ⟨lw_p20, List.forall_mem_cons.mpr ⟨lw_p21, List.forall_mem_cons.mpr ⟨lw_p22, List.forall_mem_cons.mpr ⟨lw_p23, List.forall_mem_cons.mpr ⟨lw_p24, List.forall_mem_cons.mpr ⟨lw_p25, List.forall_mem_cons.mpr ⟨lw_p26, List.forall_mem_cons.mpr ⟨lw_p27, List.forall_mem_cons.mpr ⟨lw_p28, List.forall_mem_cons.mpr ⟨lw_p29, List.forall_mem_cons.mpr ⟨lw_p30, List.forall_mem_cons.mpr ⟨lw_p31, fun _ h => absurd h List.not_mem_nil⟩⟩⟩⟩⟩⟩⟩⟩⟩⟩⟩⟩⟩⟩⟩⟩
theorem lw_p32 : lw_okq (⟨"HaggleWashModel", "cool", "()V"⟩, 13) := ⟨⟨by decide +kernel, by decide +kernel⟩, List.mem_of_getElem? (i := 692) (by decide +kernel), List.mem_of_getElem? (i := 864) (by decide +kernel), List.mem_of_getElem? (i := 865) (by decide +kernel)⟩
theorem lw_p33 : lw_okq (⟨"HaggleWashModel", "unlock", "()V"⟩, 13) := ⟨⟨by decide +kernel, by decide +kernel⟩, List.mem_of_getElem? (i := 692) (by decide +kernel), List.mem_of_getElem? (i := 868) (by decide +kernel), List.mem_of_getElem? (i := 869) (by decide +kernel)⟩
theorem lw_p34 : lw_okq (⟨"HaggleWashModel", "endLeases", "()V"⟩, 13) := ⟨⟨by decide +kernel, by decide +kernel⟩, List.mem_of_getElem? (i := 692) (by decide +kernel), List.mem_of_getElem? (i := 872) (by decide +kernel), List.mem_of_getElem? (i := 873) (by decide +kernel)⟩
theorem lw_p35 : lw_okq (⟨"HaggleWashModel", "isHouse", "(I)Z"⟩, 13) := ⟨⟨by decide +kernel, by decide +kernel⟩, List.mem_of_getElem? (i := 692) (by decide +kernel), List.mem_of_getElem? (i := 888) (by decide +kernel), List.mem_of_getElem? (i := 889) (by decide +kernel)⟩
theorem lw_p36 : lw_okq (⟨"HaggleWashModel", "readText", "()I"⟩, 13) := ⟨⟨by decide +kernel, by decide +kernel⟩, List.mem_of_getElem? (i := 692) (by decide +kernel), List.mem_of_getElem? (i := 892) (by decide +kernel), List.mem_of_getElem? (i := 893) (by decide +kernel)⟩
theorem lw_p37 : lw_okq (⟨"HaggleWashModel", "character", "(I)I"⟩, 13) := ⟨⟨by decide +kernel, by decide +kernel⟩, List.mem_of_getElem? (i := 692) (by decide +kernel), List.mem_of_getElem? (i := 896) (by decide +kernel), List.mem_of_getElem? (i := 897) (by decide +kernel)⟩
theorem lw_p38 : lw_okq (⟨"HaggleWashModel", "isInRange", "(I)Z"⟩, 13) := ⟨⟨by decide +kernel, by decide +kernel⟩, List.mem_of_getElem? (i := 692) (by decide +kernel), List.mem_of_getElem? (i := 900) (by decide +kernel), List.mem_of_getElem? (i := 901) (by decide +kernel)⟩
theorem lw_p39 : lw_okq (⟨"HaggleWashModel", "hasToLend", "(II)Z"⟩, 13) := ⟨⟨by decide +kernel, by decide +kernel⟩, List.mem_of_getElem? (i := 692) (by decide +kernel), List.mem_of_getElem? (i := 928) (by decide +kernel), List.mem_of_getElem? (i := 929) (by decide +kernel)⟩
theorem lw_p40 : lw_okq (⟨"HaggleWashModel", "askOf", "(II)I"⟩, 13) := ⟨⟨by decide +kernel, by decide +kernel⟩, List.mem_of_getElem? (i := 692) (by decide +kernel), List.mem_of_getElem? (i := 932) (by decide +kernel), List.mem_of_getElem? (i := 933) (by decide +kernel)⟩
theorem lw_p41 : lw_okq (⟨"HaggleWashModel", "deals", "(IIIII)V"⟩, 13) := ⟨⟨by decide +kernel, by decide +kernel⟩, List.mem_of_getElem? (i := 692) (by decide +kernel), List.mem_of_getElem? (i := 936) (by decide +kernel), List.mem_of_getElem? (i := 937) (by decide +kernel)⟩
theorem lw_p42 : lw_okq (⟨"HaggleWashModel", "changePrice", "(II)V"⟩, 13) := ⟨⟨by decide +kernel, by decide +kernel⟩, List.mem_of_getElem? (i := 692) (by decide +kernel), List.mem_of_getElem? (i := 940) (by decide +kernel), List.mem_of_getElem? (i := 941) (by decide +kernel)⟩
theorem lw_p43 : lw_okq (⟨"HaggleWashModel", "doorsThat", "(I)I"⟩, 13) := ⟨⟨by decide +kernel, by decide +kernel⟩, List.mem_of_getElem? (i := 692) (by decide +kernel), List.mem_of_getElem? (i := 996) (by decide +kernel), List.mem_of_getElem? (i := 997) (by decide +kernel)⟩
def lw_privs_3 : List (MethodName × Nat) := [(⟨"HaggleWashModel", "cool", "()V"⟩, 13), (⟨"HaggleWashModel", "unlock", "()V"⟩, 13), (⟨"HaggleWashModel", "endLeases", "()V"⟩, 13), (⟨"HaggleWashModel", "isHouse", "(I)Z"⟩, 13), (⟨"HaggleWashModel", "readText", "()I"⟩, 13), (⟨"HaggleWashModel", "character", "(I)I"⟩, 13), (⟨"HaggleWashModel", "isInRange", "(I)Z"⟩, 13), (⟨"HaggleWashModel", "hasToLend", "(II)Z"⟩, 13), (⟨"HaggleWashModel", "askOf", "(II)I"⟩, 13), (⟨"HaggleWashModel", "deals", "(IIIII)V"⟩, 13), (⟨"HaggleWashModel", "changePrice", "(II)V"⟩, 13), (⟨"HaggleWashModel", "doorsThat", "(I)I"⟩, 13)]
theorem lw_r3 : ∀ q ∈ lw_privs_3, lw_okq q := List.forall_mem_cons.mpr ⟨lw_p32, List.forall_mem_cons.mpr ⟨lw_p33, List.forall_mem_cons.mpr ⟨lw_p34, List.forall_mem_cons.mpr ⟨lw_p35, List.forall_mem_cons.mpr ⟨lw_p36, List.forall_mem_cons.mpr ⟨lw_p37, List.forall_mem_cons.mpr ⟨lw_p38, List.forall_mem_cons.mpr ⟨lw_p39, List.forall_mem_cons.mpr ⟨lw_p40, List.forall_mem_cons.mpr ⟨lw_p41, List.forall_mem_cons.mpr ⟨lw_p42, List.forall_mem_cons.mpr ⟨lw_p43, fun _ h => absurd h List.not_mem_nil⟩⟩⟩⟩⟩⟩⟩⟩⟩⟩⟩⟩
def lw_privs : List (MethodName × Nat) := lw_privs_1 ++ (lw_privs_2 ++ (lw_privs_3))
def lw_tbl : List Cond := k2_sels lw_privs ++ tables_1
theorem lw_privs_ok : ∀ q ∈ lw_privs, lw_okq q := by
  show ∀ q ∈ lw_privs_1 ++ (lw_privs_2 ++ (lw_privs_3)), lw_okq q
  exact List.forall_mem_append.mpr ⟨lw_r1, List.forall_mem_append.mpr ⟨lw_r2, lw_r3⟩⟩
-- ===== end of PART A; then your names; then what follows =====
end
section
def RX0 : String := "HaggleWash$HeatSplit"
def TX0 : u_T := fun k => match k with
  | 0 => ("HaggleWash$HeatSplit", "wants", "[I", true)
  | 1 => ("HaggleWash$HeatSplit", "shares", "[I", true)
  | _ => ("HaggleWash$HeatSplit", "gets", "[I", true)
def tyX0 : Nat → FieldType := fun k => match k with
  | 0 => .array .int
  | 1 => .array .int
  | _ => .array .int
abbrev wsX00 : List Cond := u_ws RX0 TX0 3
theorem nmX0 : ∀ a, a < 3 → ∀ b, b < 3 → a ≠ b → (TX0 a).2.1 ≠ (TX0 b).2.1 := by decide +kernel
theorem tyX0_ok : ∀ k, k < 3 → parseFieldDescriptor (TX0 k).2.2.1 = some (tyX0 k) := by decide +kernel
abbrev cX0_init : ByteArray := prog_2_method_1_code
def yX0_init : MethodName := ⟨RX0, "<init>", "()V"⟩
abbrev cX0_divide : ByteArray := prog_2_method_2_code
def yX0_divide : MethodName := ⟨RX0, "divide", "(I)V"⟩
abbrev cX0_isWanting : ByteArray := prog_2_method_3_code
def yX0_isWanting : MethodName := ⟨RX0, "isWanting", "(I)Z"⟩
abbrev cX0_lowestWanting : ByteArray := prog_2_method_4_code
def yX0_lowestWanting : MethodName := ⟨RX0, "lowestWanting", "()I"⟩
abbrev cX0_sharesOfWanting : ByteArray := prog_2_method_5_code
def yX0_sharesOfWanting : MethodName := ⟨RX0, "sharesOfWanting", "()I"⟩
abbrev cX0_giveParts : ByteArray := prog_2_method_6_code
def yX0_giveParts : MethodName := ⟨RX0, "giveParts", "(II)I"⟩
abbrev cX0_giveLowest : ByteArray := prog_2_method_7_code
def yX0_giveLowest : MethodName := ⟨RX0, "giveLowest", "(III)I"⟩
def RX1 : String := "HaggleWash$History"
def TX1 : u_T := fun k => match k with
  | 0 => ("HaggleWash$History", "states", "[LHaggleWash$Street;", true)
  | _ => ("HaggleWash$History", "size", "I", false)
def tyX1 : Nat → FieldType := fun k => match k with
  | 0 => .array (.object "HaggleWash$Street")
  | _ => .int
abbrev wsX10 : List Cond := u_ws RX1 TX1 2
theorem nmX1 : ∀ a, a < 2 → ∀ b, b < 2 → a ≠ b → (TX1 a).2.1 ≠ (TX1 b).2.1 := by decide +kernel
theorem tyX1_ok : ∀ k, k < 2 → parseFieldDescriptor (TX1 k).2.2.1 = some (tyX1 k) := by decide +kernel
abbrev cX1_init : ByteArray := prog_3_method_1_code
def yX1_init : MethodName := ⟨RX1, "<init>", "()V"⟩
abbrev cX1_record : ByteArray := prog_3_method_2_code
def yX1_record : MethodName := ⟨RX1, "record", "(LHaggleWash$Street;)V"⟩
abbrev cX1_dropOldest : ByteArray := prog_3_method_3_code
def yX1_dropOldest : MethodName := ⟨RX1, "dropOldest", "()V"⟩
abbrev cX1_takeBack : ByteArray := prog_3_method_4_code
def yX1_takeBack : MethodName := ⟨RX1, "takeBack", "(LHaggleWash$Street;)Z"⟩
def RX2 : String := "HaggleWash$House"
def TX2 : u_T := fun k => match k with
  | 0 => ("HaggleWash$House", "washer", "LHaggleWash$Washer;", true)
  | 1 => ("HaggleWash$House", "ownShares", "I", false)
  | 2 => ("HaggleWash$House", "price", "I", false)
  | 3 => ("HaggleWash$House", "coins", "I", false)
  | 4 => ("HaggleWash$House", "heat", "I", false)
  | 5 => ("HaggleWash$House", "programsEnded", "I", false)
  | 6 => ("HaggleWash$House", "deals", "I", false)
  | 7 => ("HaggleWash$House", "refusals", "I", false)
  | 8 => ("HaggleWash$House", "paid", "I", false)
  | _ => ("HaggleWash$House", "received", "I", false)
def tyX2 : Nat → FieldType := fun k => match k with
  | 0 => .object "HaggleWash$Washer"
  | 1 => .int
  | 2 => .int
  | 3 => .int
  | 4 => .int
  | 5 => .int
  | 6 => .int
  | 7 => .int
  | 8 => .int
  | _ => .int
abbrev wsX20 : List Cond := u_ws RX2 TX2 10
theorem nmX2 : ∀ a, a < 10 → ∀ b, b < 10 → a ≠ b → (TX2 a).2.1 ≠ (TX2 b).2.1 := by decide +kernel
theorem tyX2_ok : ∀ k, k < 10 → parseFieldDescriptor (TX2 k).2.2.1 = some (tyX2 k) := by decide +kernel
abbrev cX2_init : ByteArray := prog_4_method_1_code
def yX2_init : MethodName := ⟨RX2, "<init>", "(LHaggleWash$Program;)V"⟩
abbrev cX2_copyFrom : ByteArray := prog_4_method_2_code
def yX2_copyFrom : MethodName := ⟨RX2, "copyFrom", "(LHaggleWash$House;)V"⟩
abbrev cX2_changePrice : ByteArray := prog_4_method_3_code
def yX2_changePrice : MethodName := ⟨RX2, "changePrice", "(I)V"⟩
abbrev cX2_tell : ByteArray := prog_4_method_4_code
def yX2_tell : MethodName := ⟨RX2, "tell", "(I)I"⟩
def RX3 : String := "HaggleWash$Lease"
def TX3 : u_T := fun k => match k with
  | 0 => ("HaggleWash$Lease", "lender", "I", false)
  | 1 => ("HaggleWash$Lease", "borrower", "I", false)
  | 2 => ("HaggleWash$Lease", "shares", "I", false)
  | 3 => ("HaggleWash$Lease", "minutesLeft", "I", false)
  | _ => ("HaggleWash$Lease", "coins", "I", false)
def tyX3 : Nat → FieldType := fun k => match k with
  | 0 => .int
  | 1 => .int
  | 2 => .int
  | 3 => .int
  | _ => .int
abbrev wsX30 : List Cond := u_ws RX3 TX3 5
theorem nmX3 : ∀ a, a < 5 → ∀ b, b < 5 → a ≠ b → (TX3 a).2.1 ≠ (TX3 b).2.1 := by decide +kernel
theorem tyX3_ok : ∀ k, k < 5 → parseFieldDescriptor (TX3 k).2.2.1 = some (tyX3 k) := by decide +kernel
abbrev cX3_init : ByteArray := prog_5_method_1_code
def yX3_init : MethodName := ⟨RX3, "<init>", "()V"⟩
abbrev cX3_copyFrom : ByteArray := prog_5_method_2_code
def yX3_copyFrom : MethodName := ⟨RX3, "copyFrom", "(LHaggleWash$Lease;)V"⟩
abbrev cX3_tell : ByteArray := prog_5_method_3_code
def yX3_tell : MethodName := ⟨RX3, "tell", "(I)I"⟩
def RX4 : String := "HaggleWash$Program"
def TX4 : u_T := fun k => match k with
  | 0 => ("HaggleWash$Program", "length", "I", true)
  | 1 => ("HaggleWash$Program", "kinds", "[C", true)
  | _ => ("HaggleWash$Program", "numbers", "[I", true)
def tyX4 : Nat → FieldType := fun k => match k with
  | 0 => .int
  | 1 => .array .char
  | _ => .array .int
abbrev wsX40 : List Cond := u_ws RX4 TX4 3
theorem nmX4 : ∀ a, a < 3 → ∀ b, b < 3 → a ≠ b → (TX4 a).2.1 ≠ (TX4 b).2.1 := by decide +kernel
theorem tyX4_ok : ∀ k, k < 3 → parseFieldDescriptor (TX4 k).2.2.1 = some (tyX4 k) := by decide +kernel
abbrev cX4_init : ByteArray := prog_6_method_1_code
def yX4_init : MethodName := ⟨RX4, "<init>", "(I)V"⟩
abbrev cX4_hasPhase : ByteArray := prog_6_method_2_code
def yX4_hasPhase : MethodName := ⟨RX4, "hasPhase", "(I)Z"⟩
abbrev cX4_kindOf : ByteArray := prog_6_method_3_code
def yX4_kindOf : MethodName := ⟨RX4, "kindOf", "(I)C"⟩
abbrev cX4_numberOf : ByteArray := prog_6_method_4_code
def yX4_numberOf : MethodName := ⟨RX4, "numberOf", "(I)I"⟩
abbrev cX4_putKind : ByteArray := prog_6_method_5_code
def yX4_putKind : MethodName := ⟨RX4, "putKind", "(IC)V"⟩
abbrev cX4_putDigit : ByteArray := prog_6_method_6_code
def yX4_putDigit : MethodName := ⟨RX4, "putDigit", "(II)V"⟩
abbrev cX4_hasGoodNumbers : ByteArray := prog_6_method_7_code
def yX4_hasGoodNumbers : MethodName := ⟨RX4, "hasGoodNumbers", "()Z"⟩
abbrev cX4_isGoodNumber : ByteArray := prog_6_method_8_code
def yX4_isGoodNumber : MethodName := ⟨RX4, "isGoodNumber", "(CI)Z"⟩
def RX5 : String := "HaggleWash$ProgramText"
def TX5 : u_T := fun k => match k with
  | 0 => ("HaggleWash$ProgramText", "characters", "[C", true)
  | _ => ("HaggleWash$ProgramText", "length", "I", false)
def tyX5 : Nat → FieldType := fun k => match k with
  | 0 => .array .char
  | _ => .int
abbrev wsX50 : List Cond := u_ws RX5 TX5 2
theorem nmX5 : ∀ a, a < 2 → ∀ b, b < 2 → a ≠ b → (TX5 a).2.1 ≠ (TX5 b).2.1 := by decide +kernel
theorem tyX5_ok : ∀ k, k < 2 → parseFieldDescriptor (TX5 k).2.2.1 = some (tyX5 k) := by decide +kernel
abbrev cX5_init : ByteArray := prog_7_method_1_code
def yX5_init : MethodName := ⟨RX5, "<init>", "()V"⟩
abbrev cX5_append : ByteArray := prog_7_method_2_code
def yX5_append : MethodName := ⟨RX5, "append", "(C)Z"⟩
abbrev cX5_firstFault : ByteArray := prog_7_method_3_code
def yX5_firstFault : MethodName := ⟨RX5, "firstFault", "()I"⟩
abbrev cX5_placeBehind : ByteArray := prog_7_method_4_code
def yX5_placeBehind : MethodName := ⟨RX5, "placeBehind", "(IC)I"⟩
abbrev cX5_isKindWithNumber : ByteArray := prog_7_method_5_code
def yX5_isKindWithNumber : MethodName := ⟨RX5, "isKindWithNumber", "(C)Z"⟩
abbrev cX5_isDigit : ByteArray := prog_7_method_6_code
def yX5_isDigit : MethodName := ⟨RX5, "isDigit", "(C)Z"⟩
abbrev cX5_toProgram : ByteArray := prog_7_method_7_code
def yX5_toProgram : MethodName := ⟨RX5, "toProgram", "()LHaggleWash$Program;"⟩
abbrev cX5_separators : ByteArray := prog_7_method_8_code
def yX5_separators : MethodName := ⟨RX5, "separators", "()I"⟩
def RX6 : String := "HaggleWash$Street"
def TX6 : u_T := fun k => match k with
  | 0 => ("HaggleWash$Street", "settings", "[I", true)
  | 1 => ("HaggleWash$Street", "houses", "[LHaggleWash$House;", true)
  | 2 => ("HaggleWash$Street", "leases", "[LHaggleWash$Lease;", true)
  | 3 => ("HaggleWash$Street", "houseCount", "I", false)
  | 4 => ("HaggleWash$Street", "leaseCount", "I", false)
  | 5 => ("HaggleWash$Street", "minute", "I", false)
  | 6 => ("HaggleWash$Street", "darkMinutes", "I", false)
  | 7 => ("HaggleWash$Street", "powered", "Z", false)
  | 8 => ("HaggleWash$Street", "store", "I", false)
  | 9 => ("HaggleWash$Street", "heatIn", "I", false)
  | _ => ("HaggleWash$Street", "heatOut", "I", false)
def tyX6 : Nat → FieldType := fun k => match k with
  | 0 => .array .int
  | 1 => .array (.object "HaggleWash$House")
  | 2 => .array (.object "HaggleWash$Lease")
  | 3 => .int
  | 4 => .int
  | 5 => .int
  | 6 => .int
  | 7 => .boolean
  | 8 => .int
  | 9 => .int
  | _ => .int
abbrev wsX60 : List Cond := u_ws RX6 TX6 11
theorem nmX6 : ∀ a, a < 11 → ∀ b, b < 11 → a ≠ b → (TX6 a).2.1 ≠ (TX6 b).2.1 := by decide +kernel
theorem tyX6_ok : ∀ k, k < 11 → parseFieldDescriptor (TX6 k).2.2.1 = some (tyX6 k) := by decide +kernel
abbrev cX6_init : ByteArray := prog_8_method_1_code
def yX6_init : MethodName := ⟨RX6, "<init>", "()V"⟩
abbrev cX6_copyFrom : ByteArray := prog_8_method_2_code
def yX6_copyFrom : MethodName := ⟨RX6, "copyFrom", "(LHaggleWash$Street;)V"⟩
abbrev cX6_hasHouse : ByteArray := prog_8_method_3_code
def yX6_hasHouse : MethodName := ⟨RX6, "hasHouse", "(I)Z"⟩
abbrev cX6_washerOf : ByteArray := prog_8_method_4_code
def yX6_washerOf : MethodName := ⟨RX6, "washerOf", "(I)LHaggleWash$Washer;"⟩
abbrev cX6_settle : ByteArray := prog_8_method_5_code
def yX6_settle : MethodName := ⟨RX6, "settle", "(III)I"⟩
abbrev cX6_switchPower : ByteArray := prog_8_method_6_code
def yX6_switchPower : MethodName := ⟨RX6, "switchPower", "(Z)V"⟩
abbrev cX6_hasUnlockedAbove : ByteArray := prog_8_method_7_code
def yX6_hasUnlockedAbove : MethodName := ⟨RX6, "hasUnlockedAbove", "(I)Z"⟩
abbrev cX6_lentOf : ByteArray := prog_8_method_8_code
def yX6_lentOf : MethodName := ⟨RX6, "lentOf", "(I)I"⟩
abbrev cX6_unlentOf : ByteArray := prog_8_method_9_code
def yX6_unlentOf : MethodName := ⟨RX6, "unlentOf", "(I)I"⟩
abbrev cX6_sharesOf : ByteArray := prog_8_method_10_code
def yX6_sharesOf : MethodName := ⟨RX6, "sharesOf", "(I)I"⟩
abbrev cX6_askOf : ByteArray := prog_8_method_11_code
def yX6_askOf : MethodName := ⟨RX6, "askOf", "(II)I"⟩
abbrev cX6_refuse : ByteArray := prog_8_method_12_code
def yX6_refuse : MethodName := ⟨RX6, "refuse", "(IIZ)V"⟩
abbrev cX6_pay : ByteArray := prog_8_method_13_code
def yX6_pay : MethodName := ⟨RX6, "pay", "(III)V"⟩
abbrev cX6_lend : ByteArray := prog_8_method_14_code
def yX6_lend : MethodName := ⟨RX6, "lend", "(IIIII)V"⟩
abbrev cX6_wantedHeat : ByteArray := prog_8_method_15_code
def yX6_wantedHeat : MethodName := ⟨RX6, "wantedHeat", "()I"⟩
abbrev cX6_divideHeat : ByteArray := prog_8_method_16_code
def yX6_divideHeat : MethodName := ⟨RX6, "divideHeat", "(LHaggleWash$HeatSplit;)V"⟩
abbrev cX6_storeWithInput : ByteArray := prog_8_method_17_code
def yX6_storeWithInput : MethodName := ⟨RX6, "storeWithInput", "()I"⟩
abbrev cX6_passMinute : ByteArray := prog_8_method_18_code
def yX6_passMinute : MethodName := ⟨RX6, "passMinute", "(LHaggleWash$HeatSplit;)I"⟩
abbrev cX6_giveHeat : ByteArray := prog_8_method_19_code
def yX6_giveHeat : MethodName := ⟨RX6, "giveHeat", "(LHaggleWash$HeatSplit;)I"⟩
abbrev cX6_work : ByteArray := prog_8_method_20_code
def yX6_work : MethodName := ⟨RX6, "work", "(LHaggleWash$HeatSplit;)V"⟩
abbrev cX6_shortenLeases : ByteArray := prog_8_method_21_code
def yX6_shortenLeases : MethodName := ⟨RX6, "shortenLeases", "()V"⟩
abbrev cX6_washersIn : ByteArray := prog_8_method_22_code
def yX6_washersIn : MethodName := ⟨RX6, "washersIn", "(I)I"⟩
abbrev cX6_doorsIn : ByteArray := prog_8_method_23_code
def yX6_doorsIn : MethodName := ⟨RX6, "doorsIn", "(I)I"⟩
abbrev cX6_sumOf : ByteArray := prog_8_method_24_code
def yX6_sumOf : MethodName := ⟨RX6, "sumOf", "(I)I"⟩
abbrev cX6_tell : ByteArray := prog_8_method_25_code
def yX6_tell : MethodName := ⟨RX6, "tell", "(I)I"⟩
def RX7 : String := "HaggleWash$Washer"
def TX7 : u_T := fun k => match k with
  | 0 => ("HaggleWash$Washer", "program", "LHaggleWash$Program;", false)
  | 1 => ("HaggleWash$Washer", "state", "I", false)
  | 2 => ("HaggleWash$Washer", "door", "I", false)
  | 3 => ("HaggleWash$Washer", "phase", "I", false)
  | 4 => ("HaggleWash$Washer", "gone", "I", false)
  | 5 => ("HaggleWash$Washer", "water", "I", false)
  | 6 => ("HaggleWash$Washer", "warmth", "J", false)
  | _ => ("HaggleWash$Washer", "litresIn", "I", false)
def tyX7 : Nat → FieldType := fun k => match k with
  | 0 => .object "HaggleWash$Program"
  | 1 => .int
  | 2 => .int
  | 3 => .int
  | 4 => .int
  | 5 => .int
  | 6 => .long
  | _ => .int
abbrev wsX70 : List Cond := u_ws RX7 TX7 8
theorem nmX7 : ∀ a, a < 8 → ∀ b, b < 8 → a ≠ b → (TX7 a).2.1 ≠ (TX7 b).2.1 := by decide +kernel
theorem tyX7_ok : ∀ k, k < 8 → parseFieldDescriptor (TX7 k).2.2.1 = some (tyX7 k) := by decide +kernel
abbrev cX7_init : ByteArray := prog_9_method_1_code
def yX7_init : MethodName := ⟨RX7, "<init>", "(LHaggleWash$Program;)V"⟩
abbrev cX7_copyFrom : ByteArray := prog_9_method_2_code
def yX7_copyFrom : MethodName := ⟨RX7, "copyFrom", "(LHaggleWash$Washer;)V"⟩
abbrev cX7_temperature : ByteArray := prog_9_method_3_code
def yX7_temperature : MethodName := ⟨RX7, "temperature", "()I"⟩
abbrev cX7_canStart : ByteArray := prog_9_method_4_code
def yX7_canStart : MethodName := ⟨RX7, "canStart", "()Z"⟩
abbrev cX7_begin : ByteArray := prog_9_method_5_code
def yX7_begin : MethodName := ⟨RX7, "begin", "()V"⟩
abbrev cX7_spinAnew : ByteArray := prog_9_method_6_code
def yX7_spinAnew : MethodName := ⟨RX7, "spinAnew", "()V"⟩
abbrev cX7_wantedHeat : ByteArray := prog_9_method_7_code
def yX7_wantedHeat : MethodName := ⟨RX7, "wantedHeat", "()I"⟩
abbrev cX7_endsInMinute : ByteArray := prog_9_method_8_code
def yX7_endsInMinute : MethodName := ⟨RX7, "endsInMinute", "(I)Z"⟩
abbrev cX7_cannotWork : ByteArray := prog_9_method_9_code
def yX7_cannotWork : MethodName := ⟨RX7, "cannotWork", "()Z"⟩
abbrev cX7_change : ByteArray := prog_9_method_10_code
def yX7_change : MethodName := ⟨RX7, "change", "(I)V"⟩
abbrev cX7_pour : ByteArray := prog_9_method_11_code
def yX7_pour : MethodName := ⟨RX7, "pour", "(I)V"⟩
abbrev cX7_drain : ByteArray := prog_9_method_12_code
def yX7_drain : MethodName := ⟨RX7, "drain", "()V"⟩
abbrev cX7_isPhaseOver : ByteArray := prog_9_method_13_code
def yX7_isPhaseOver : MethodName := ⟨RX7, "isPhaseOver", "()Z"⟩
abbrev cX7_cool : ByteArray := prog_9_method_14_code
def yX7_cool : MethodName := ⟨RX7, "cool", "()V"⟩
abbrev cX7_unlockIfSafe : ByteArray := prog_9_method_15_code
def yX7_unlockIfSafe : MethodName := ⟨RX7, "unlockIfSafe", "(I)V"⟩
abbrev cX7_tell : ByteArray := prog_9_method_16_code
def yX7_tell : MethodName := ⟨RX7, "tell", "(I)I"⟩
def RX8 : String := "HaggleWash"
def TX8 : u_T := fun k => match k with
  | 0 => ("HaggleWash", "street", "LHaggleWash$Street;", true)
  | 1 => ("HaggleWash", "trial", "LHaggleWash$Street;", true)
  | 2 => ("HaggleWash", "snapshot", "LHaggleWash$Street;", true)
  | 3 => ("HaggleWash", "history", "LHaggleWash$History;", true)
  | 4 => ("HaggleWash", "split", "LHaggleWash$HeatSplit;", true)
  | 5 => ("HaggleWash", "text", "LHaggleWash$ProgramText;", true)
  | _ => ("HaggleWash", "hasSnapshot", "Z", false)
def tyX8 : Nat → FieldType := fun k => match k with
  | 0 => .object "HaggleWash$Street"
  | 1 => .object "HaggleWash$Street"
  | 2 => .object "HaggleWash$Street"
  | 3 => .object "HaggleWash$History"
  | 4 => .object "HaggleWash$HeatSplit"
  | 5 => .object "HaggleWash$ProgramText"
  | _ => .boolean
abbrev wsX80 : List Cond := u_ws RX8 TX8 7
theorem nmX8 : ∀ a, a < 7 → ∀ b, b < 7 → a ≠ b → (TX8 a).2.1 ≠ (TX8 b).2.1 := by decide +kernel
theorem tyX8_ok : ∀ k, k < 7 → parseFieldDescriptor (TX8 k).2.2.1 = some (tyX8 k) := by decide +kernel
abbrev cX8_init : ByteArray := prog_1_method_1_code
def yX8_init : MethodName := ⟨RX8, "<init>", "()V"⟩
abbrev cX8_addHouse : ByteArray := prog_1_method_2_code
def yX8_addHouse : MethodName := ⟨RX8, "addHouse", "(III)I"⟩
abbrev cX8_set : ByteArray := prog_1_method_3_code
def yX8_set : MethodName := ⟨RX8, "set", "(II)I"⟩
abbrev cX8_power : ByteArray := prog_1_method_4_code
def yX8_power : MethodName := ⟨RX8, "power", "(Z)I"⟩
abbrev cX8_pass : ByteArray := prog_1_method_5_code
def yX8_pass : MethodName := ⟨RX8, "pass", "(I)I"⟩
abbrev cX8_type : ByteArray := prog_1_method_6_code
def yX8_type : MethodName := ⟨RX8, "type", "(C)I"⟩
abbrev cX8_clearText : ByteArray := prog_1_method_7_code
def yX8_clearText : MethodName := ⟨RX8, "clearText", "()I"⟩
abbrev cX8_readProgram : ByteArray := prog_1_method_8_code
def yX8_readProgram : MethodName := ⟨RX8, "readProgram", "(I)I"⟩
abbrev cX8_start : ByteArray := prog_1_method_9_code
def yX8_start : MethodName := ⟨RX8, "start", "(I)I"⟩
abbrev cX8_stop : ByteArray := prog_1_method_10_code
def yX8_stop : MethodName := ⟨RX8, "stop", "(I)I"⟩
abbrev cX8_bail : ByteArray := prog_1_method_11_code
def yX8_bail : MethodName := ⟨RX8, "bail", "(I)I"⟩
abbrev cX8_openDoor : ByteArray := prog_1_method_12_code
def yX8_openDoor : MethodName := ⟨RX8, "openDoor", "(I)I"⟩
abbrev cX8_closeDoor : ByteArray := prog_1_method_13_code
def yX8_closeDoor : MethodName := ⟨RX8, "closeDoor", "(I)I"⟩
abbrev cX8_haggle : ByteArray := prog_1_method_14_code
def yX8_haggle : MethodName := ⟨RX8, "haggle", "(IIIII)I"⟩
abbrev cX8_undo : ByteArray := prog_1_method_15_code
def yX8_undo : MethodName := ⟨RX8, "undo", "()I"⟩
abbrev cX8_keep : ByteArray := prog_1_method_16_code
def yX8_keep : MethodName := ⟨RX8, "keep", "()I"⟩
abbrev cX8_restore : ByteArray := prog_1_method_17_code
def yX8_restore : MethodName := ⟨RX8, "restore", "()I"⟩
abbrev cX8_house : ByteArray := prog_1_method_18_code
def yX8_house : MethodName := ⟨RX8, "house", "(II)I"⟩
abbrev cX8_washer : ByteArray := prog_1_method_19_code
def yX8_washer : MethodName := ⟨RX8, "washer", "(II)I"⟩
abbrev cX8_phase : ByteArray := prog_1_method_20_code
def yX8_phase : MethodName := ⟨RX8, "phase", "(III)I"⟩
abbrev cX8_boiler : ByteArray := prog_1_method_21_code
def yX8_boiler : MethodName := ⟨RX8, "boiler", "(I)I"⟩
abbrev cX8_heatNext : ByteArray := prog_1_method_22_code
def yX8_heatNext : MethodName := ⟨RX8, "heatNext", "(I)I"⟩
abbrev cX8_lease : ByteArray := prog_1_method_23_code
def yX8_lease : MethodName := ⟨RX8, "lease", "(II)I"⟩
abbrev cX8_ask : ByteArray := prog_1_method_24_code
def yX8_ask : MethodName := ⟨RX8, "ask", "(II)I"⟩
abbrev cX8_overIn : ByteArray := prog_1_method_25_code
def yX8_overIn : MethodName := ⟨RX8, "overIn", "(I)I"⟩
abbrev cX8_freeIn : ByteArray := prog_1_method_26_code
def yX8_freeIn : MethodName := ⟨RX8, "freeIn", "(I)I"⟩
abbrev cX8_count : ByteArray := prog_1_method_27_code
def yX8_count : MethodName := ⟨RX8, "count", "(I)I"⟩
abbrev cX8_isWithin : ByteArray := prog_1_method_28_code
def yX8_isWithin : MethodName := ⟨RX8, "isWithin", "(III)Z"⟩
def RX9 : String := "HaggleWashModel"
def TX9 : u_T := fun k => match k with
  | 0 => ("HaggleWashModel", "state", "[I", true)
  | 1 => ("HaggleWashModel", "kept", "[I", true)
  | 2 => ("HaggleWashModel", "snapshot", "[I", true)
  | 3 => ("HaggleWashModel", "hasSnapshot", "I", false)
  | 4 => ("HaggleWashModel", "history", "[I", true)
  | 5 => ("HaggleWashModel", "recorded", "I", false)
  | 6 => ("HaggleWashModel", "text", "[I", true)
  | 7 => ("HaggleWashModel", "textLength", "I", false)
  | 8 => ("HaggleWashModel", "wants", "[I", true)
  | 9 => ("HaggleWashModel", "gets", "[I", true)
  | 10 => ("HaggleWashModel", "read", "I", false)
  | 11 => ("HaggleWashModel", "readKinds", "[I", true)
  | _ => ("HaggleWashModel", "readNumbers", "[I", true)
def tyX9 : Nat → FieldType := fun k => match k with
  | 0 => .array .int
  | 1 => .array .int
  | 2 => .array .int
  | 3 => .int
  | 4 => .array .int
  | 5 => .int
  | 6 => .array .int
  | 7 => .int
  | 8 => .array .int
  | 9 => .array .int
  | 10 => .int
  | 11 => .array .int
  | _ => .array .int
abbrev wsX90 : List Cond := u_ws RX9 TX9 13
theorem nmX9 : ∀ a, a < 13 → ∀ b, b < 13 → a ≠ b → (TX9 a).2.1 ≠ (TX9 b).2.1 := by decide +kernel
theorem tyX9_ok : ∀ k, k < 13 → parseFieldDescriptor (TX9 k).2.2.1 = some (tyX9 k) := by decide +kernel
abbrev cX9_init : ByteArray := prog_11_method_1_code
def yX9_init : MethodName := ⟨RX9, "<init>", "()V"⟩
abbrev cX9_copy : ByteArray := prog_11_method_3_code
def yX9_copy : MethodName := ⟨RX9, "copy", "([II[II)V"⟩
abbrev cX9_within : ByteArray := prog_11_method_4_code
def yX9_within : MethodName := ⟨RX9, "within", "(III)Z"⟩
abbrev cX9_record : ByteArray := prog_11_method_5_code
def yX9_record : MethodName := ⟨RX9, "record", "()V"⟩
abbrev cX9_isHouse : ByteArray := prog_11_method_6_code
def yX9_isHouse : MethodName := ⟨RX9, "isHouse", "(I)Z"⟩
abbrev cX9_part : ByteArray := prog_11_method_7_code
def yX9_part : MethodName := ⟨RX9, "part", "(II)I"⟩
abbrev cX9_setPart : ByteArray := prog_11_method_8_code
def yX9_setPart : MethodName := ⟨RX9, "setPart", "(III)V"⟩
abbrev cX9_addPart : ByteArray := prog_11_method_9_code
def yX9_addPart : MethodName := ⟨RX9, "addPart", "(III)V"⟩
abbrev cX9_leasePart : ByteArray := prog_11_method_10_code
def yX9_leasePart : MethodName := ⟨RX9, "leasePart", "(II)I"⟩
abbrev cX9_temperature : ByteArray := prog_11_method_11_code
def yX9_temperature : MethodName := ⟨RX9, "temperature", "(I)I"⟩
abbrev cX9_lent : ByteArray := prog_11_method_12_code
def yX9_lent : MethodName := ⟨RX9, "lent", "(I)I"⟩
abbrev cX9_sharesOf : ByteArray := prog_11_method_13_code
def yX9_sharesOf : MethodName := ⟨RX9, "sharesOf", "(I)I"⟩
abbrev cX9_runs : ByteArray := prog_11_method_14_code
def yX9_runs : MethodName := ⟨RX9, "runs", "(I)Z"⟩
abbrev cX9_kindOf : ByteArray := prog_11_method_15_code
def yX9_kindOf : MethodName := ⟨RX9, "kindOf", "(I)I"⟩
abbrev cX9_numberOf : ByteArray := prog_11_method_16_code
def yX9_numberOf : MethodName := ⟨RX9, "numberOf", "(I)I"⟩
abbrev cX9_washersIn : ByteArray := prog_11_method_17_code
def yX9_washersIn : MethodName := ⟨RX9, "washersIn", "(I)I"⟩
abbrev cX9_addHouse : ByteArray := prog_11_method_18_code
def yX9_addHouse : MethodName := ⟨RX9, "addHouse", "(III)I"⟩
abbrev cX9_isSetting : ByteArray := prog_11_method_19_code
def yX9_isSetting : MethodName := ⟨RX9, "isSetting", "(II)Z"⟩
abbrev cX9_isTooHot : ByteArray := prog_11_method_20_code
def yX9_isTooHot : MethodName := ⟨RX9, "isTooHot", "(I)Z"⟩
abbrev cX9_set : ByteArray := prog_11_method_21_code
def yX9_set : MethodName := ⟨RX9, "set", "(II)I"⟩
abbrev cX9_power : ByteArray := prog_11_method_22_code
def yX9_power : MethodName := ⟨RX9, "power", "(Z)I"⟩
abbrev cX9_wantOf : ByteArray := prog_11_method_23_code
def yX9_wantOf : MethodName := ⟨RX9, "wantOf", "(I)I"⟩
abbrev cX9_wantingShares : ByteArray := prog_11_method_24_code
def yX9_wantingShares : MethodName := ⟨RX9, "wantingShares", "()I"⟩
abbrev cX9_split : ByteArray := prog_11_method_25_code
def yX9_split : MethodName := ⟨RX9, "split", "(I)I"⟩
abbrev cX9_heatNow : ByteArray := prog_11_method_26_code
def yX9_heatNow : MethodName := ⟨RX9, "heatNow", "()I"⟩
abbrev cX9_fillStore : ByteArray := prog_11_method_27_code
def yX9_fillStore : MethodName := ⟨RX9, "fillStore", "()V"⟩
abbrev cX9_beginPhase : ByteArray := prog_11_method_28_code
def yX9_beginPhase : MethodName := ⟨RX9, "beginPhase", "(II)V"⟩
abbrev cX9_fills : ByteArray := prog_11_method_29_code
def yX9_fills : MethodName := ⟨RX9, "fills", "(I)V"⟩
abbrev cX9_drains : ByteArray := prog_11_method_30_code
def yX9_drains : MethodName := ⟨RX9, "drains", "(I)V"⟩
abbrev cX9_isOver : ByteArray := prog_11_method_31_code
def yX9_isOver : MethodName := ⟨RX9, "isOver", "(I)Z"⟩
abbrev cX9_works : ByteArray := prog_11_method_32_code
def yX9_works : MethodName := ⟨RX9, "works", "(I)V"⟩
abbrev cX9_powered : ByteArray := prog_11_method_33_code
def yX9_powered : MethodName := ⟨RX9, "powered", "()I"⟩
abbrev cX9_cool : ByteArray := prog_11_method_34_code
def yX9_cool : MethodName := ⟨RX9, "cool", "()V"⟩
abbrev cX9_unlock : ByteArray := prog_11_method_35_code
def yX9_unlock : MethodName := ⟨RX9, "unlock", "()V"⟩
abbrev cX9_endLeases : ByteArray := prog_11_method_36_code
def yX9_endLeases : MethodName := ⟨RX9, "endLeases", "()V"⟩
abbrev cX9_minute : ByteArray := prog_11_method_37_code
def yX9_minute : MethodName := ⟨RX9, "minute", "()I"⟩
abbrev cX9_pass : ByteArray := prog_11_method_38_code
def yX9_pass : MethodName := ⟨RX9, "pass", "(I)I"⟩
abbrev cX9_type : ByteArray := prog_11_method_39_code
def yX9_type : MethodName := ⟨RX9, "type", "(C)I"⟩
abbrev cX9_clearText : ByteArray := prog_11_method_40_code
def yX9_clearText : MethodName := ⟨RX9, "clearText", "()I"⟩
abbrev cX9_character : ByteArray := prog_11_method_41_code
def yX9_character : MethodName := ⟨RX9, "character", "(I)I"⟩
abbrev cX9_readText : ByteArray := prog_11_method_42_code
def yX9_readText : MethodName := ⟨RX9, "readText", "()I"⟩
abbrev cX9_isInRange : ByteArray := prog_11_method_43_code
def yX9_isInRange : MethodName := ⟨RX9, "isInRange", "(I)Z"⟩
abbrev cX9_readProgram : ByteArray := prog_11_method_44_code
def yX9_readProgram : MethodName := ⟨RX9, "readProgram", "(I)I"⟩
abbrev cX9_start : ByteArray := prog_11_method_45_code
def yX9_start : MethodName := ⟨RX9, "start", "(I)I"⟩
abbrev cX9_stop : ByteArray := prog_11_method_46_code
def yX9_stop : MethodName := ⟨RX9, "stop", "(I)I"⟩
abbrev cX9_bail : ByteArray := prog_11_method_47_code
def yX9_bail : MethodName := ⟨RX9, "bail", "(I)I"⟩
abbrev cX9_openDoor : ByteArray := prog_11_method_48_code
def yX9_openDoor : MethodName := ⟨RX9, "openDoor", "(I)I"⟩
abbrev cX9_closeDoor : ByteArray := prog_11_method_49_code
def yX9_closeDoor : MethodName := ⟨RX9, "closeDoor", "(I)I"⟩
abbrev cX9_askOf : ByteArray := prog_11_method_50_code
def yX9_askOf : MethodName := ⟨RX9, "askOf", "(II)I"⟩
abbrev cX9_hasToLend : ByteArray := prog_11_method_51_code
def yX9_hasToLend : MethodName := ⟨RX9, "hasToLend", "(II)Z"⟩
abbrev cX9_changePrice : ByteArray := prog_11_method_52_code
def yX9_changePrice : MethodName := ⟨RX9, "changePrice", "(II)V"⟩
abbrev cX9_deals : ByteArray := prog_11_method_53_code
def yX9_deals : MethodName := ⟨RX9, "deals", "(IIIII)V"⟩
abbrev cX9_haggle : ByteArray := prog_11_method_54_code
def yX9_haggle : MethodName := ⟨RX9, "haggle", "(IIIII)I"⟩
abbrev cX9_undo : ByteArray := prog_11_method_55_code
def yX9_undo : MethodName := ⟨RX9, "undo", "()I"⟩
abbrev cX9_keep : ByteArray := prog_11_method_56_code
def yX9_keep : MethodName := ⟨RX9, "keep", "()I"⟩
abbrev cX9_restore : ByteArray := prog_11_method_57_code
def yX9_restore : MethodName := ⟨RX9, "restore", "()I"⟩
abbrev cX9_house : ByteArray := prog_11_method_58_code
def yX9_house : MethodName := ⟨RX9, "house", "(II)I"⟩
abbrev cX9_washer : ByteArray := prog_11_method_59_code
def yX9_washer : MethodName := ⟨RX9, "washer", "(II)I"⟩
abbrev cX9_phase : ByteArray := prog_11_method_60_code
def yX9_phase : MethodName := ⟨RX9, "phase", "(III)I"⟩
abbrev cX9_boiler : ByteArray := prog_11_method_61_code
def yX9_boiler : MethodName := ⟨RX9, "boiler", "(I)I"⟩
abbrev cX9_heatNext : ByteArray := prog_11_method_62_code
def yX9_heatNext : MethodName := ⟨RX9, "heatNext", "(I)I"⟩
abbrev cX9_lease : ByteArray := prog_11_method_63_code
def yX9_lease : MethodName := ⟨RX9, "lease", "(II)I"⟩
abbrev cX9_ask : ByteArray := prog_11_method_64_code
def yX9_ask : MethodName := ⟨RX9, "ask", "(II)I"⟩
abbrev cX9_overIn : ByteArray := prog_11_method_65_code
def yX9_overIn : MethodName := ⟨RX9, "overIn", "(I)I"⟩
abbrev cX9_freeIn : ByteArray := prog_11_method_66_code
def yX9_freeIn : MethodName := ⟨RX9, "freeIn", "(I)I"⟩
abbrev cX9_doorsThat : ByteArray := prog_11_method_67_code
def yX9_doorsThat : MethodName := ⟨RX9, "doorsThat", "(I)I"⟩
abbrev cX9_count : ByteArray := prog_11_method_68_code
def yX9_count : MethodName := ⟨RX9, "count", "(I)I"⟩
def RL : String := "HaggleWashLaw"
abbrev cL_law : ByteArray := code
def yL_law : MethodName := ⟨RL, "law", "([I)Z"⟩
abbrev vwCl : List vw_C := [(RX0, TX0, 3), (RX1, TX1, 2), (RX2, TX2, 10), (RX3, TX3, 5), (RX4, TX4, 3), (RX5, TX5, 2), (RX6, TX6, 11), (RX7, TX7, 8), (RX8, TX8, 7), (RX9, TX9, 13)]
theorem inX0 : ∀ w ∈ wsX00, w ∈ lw_tbl := by decide +kernel
theorem inX1 : ∀ w ∈ wsX10, w ∈ lw_tbl := by decide +kernel
theorem inX2 : ∀ w ∈ wsX20, w ∈ lw_tbl := by decide +kernel
theorem inX3 : ∀ w ∈ wsX30, w ∈ lw_tbl := by decide +kernel
theorem inX4 : ∀ w ∈ wsX40, w ∈ lw_tbl := by decide +kernel
theorem inX5 : ∀ w ∈ wsX50, w ∈ lw_tbl := by decide +kernel
theorem inX6 : ∀ w ∈ wsX60, w ∈ lw_tbl := by decide +kernel
theorem inX7 : ∀ w ∈ wsX70, w ∈ lw_tbl := by decide +kernel
theorem inX8 : ∀ w ∈ wsX80, w ∈ lw_tbl := by decide +kernel
theorem inX9 : ∀ w ∈ wsX90, w ∈ lw_tbl := by decide +kernel
end
section
theorem dX0_init_0 : decode cX0_init 0 = .ok (.aload_n 0, 1) := by decide +kernel
theorem dX0_init_1 : decode cX0_init 1 = .ok (.invokespecial 3, 3) := by decide +kernel
theorem dX0_init_4 : decode cX0_init 4 = .ok (.aload_n 0, 1) := by decide +kernel
theorem dX0_init_5 : decode cX0_init 5 = .ok (.bipush 8, 2) := by decide +kernel
theorem dX0_init_7 : decode cX0_init 7 = .ok (.newarray .int, 2) := by decide +kernel
theorem dX0_init_9 : decode cX0_init 9 = .ok (.putfield 9, 3) := by decide +kernel
theorem dX0_init_12 : decode cX0_init 12 = .ok (.aload_n 0, 1) := by decide +kernel
theorem dX0_init_13 : decode cX0_init 13 = .ok (.bipush 8, 2) := by decide +kernel
theorem dX0_init_15 : decode cX0_init 15 = .ok (.newarray .int, 2) := by decide +kernel
theorem dX0_init_17 : decode cX0_init 17 = .ok (.putfield 15, 3) := by decide +kernel
theorem dX0_init_20 : decode cX0_init 20 = .ok (.aload_n 0, 1) := by decide +kernel
theorem dX0_init_21 : decode cX0_init 21 = .ok (.bipush 8, 2) := by decide +kernel
theorem dX0_init_23 : decode cX0_init 23 = .ok (.newarray .int, 2) := by decide +kernel
theorem dX0_init_25 : decode cX0_init 25 = .ok (.putfield 18, 3) := by decide +kernel
theorem dX0_init_28 : decode cX0_init 28 = .ok (.return_, 1) := by decide +kernel
theorem dX0_divide_0 : decode cX0_divide 0 = .ok (.iconst 0, 1) := by decide +kernel
theorem dX0_divide_1 : decode cX0_divide 1 = .ok (.istore_n 2, 1) := by decide +kernel
theorem dX0_divide_2 : decode cX0_divide 2 = .ok (.iload_n 2, 1) := by decide +kernel
theorem dX0_divide_3 : decode cX0_divide 3 = .ok (.bipush 8, 2) := by decide +kernel
theorem dX0_divide_5 : decode cX0_divide 5 = .ok (.if_icmp .ge 16, 3) := by decide +kernel
theorem dX0_divide_8 : decode cX0_divide 8 = .ok (.aload_n 0, 1) := by decide +kernel
theorem dX0_divide_9 : decode cX0_divide 9 = .ok (.getfield 18, 3) := by decide +kernel
theorem dX0_divide_12 : decode cX0_divide 12 = .ok (.iload_n 2, 1) := by decide +kernel
theorem dX0_divide_13 : decode cX0_divide 13 = .ok (.iconst 0, 1) := by decide +kernel
theorem dX0_divide_14 : decode cX0_divide 14 = .ok (.iastore, 1) := by decide +kernel
theorem dX0_divide_15 : decode cX0_divide 15 = .ok (.iinc 2 1, 3) := by decide +kernel
theorem dX0_divide_18 : decode cX0_divide 18 = .ok (.goto (-16), 3) := by decide +kernel
theorem dX0_divide_21 : decode cX0_divide 21 = .ok (.iload_n 1, 1) := by decide +kernel
theorem dX0_divide_22 : decode cX0_divide 22 = .ok (.istore_n 2, 1) := by decide +kernel
theorem dX0_divide_23 : decode cX0_divide 23 = .ok (.aload_n 0, 1) := by decide +kernel
theorem dX0_divide_24 : decode cX0_divide 24 = .ok (.invokevirtual 21, 3) := by decide +kernel
theorem dX0_divide_27 : decode cX0_divide 27 = .ok (.istore_n 3, 1) := by decide +kernel
theorem dX0_divide_28 : decode cX0_divide 28 = .ok (.iconst 0, 1) := by decide +kernel
theorem dX0_divide_29 : decode cX0_divide 29 = .ok (.istore 4, 2) := by decide +kernel
theorem dX0_divide_31 : decode cX0_divide 31 = .ok (.iload 4, 2) := by decide +kernel
theorem dX0_divide_33 : decode cX0_divide 33 = .ok (.sipush 2000, 3) := by decide +kernel
theorem dX0_divide_36 : decode cX0_divide 36 = .ok (.if_icmp .ge 60, 3) := by decide +kernel
theorem dX0_divide_39 : decode cX0_divide 39 = .ok (.iload_n 2, 1) := by decide +kernel
theorem dX0_divide_40 : decode cX0_divide 40 = .ok (.ifCond .le 56, 3) := by decide +kernel
theorem dX0_divide_43 : decode cX0_divide 43 = .ok (.iload_n 3, 1) := by decide +kernel
theorem dX0_divide_44 : decode cX0_divide 44 = .ok (.bipush (-5), 2) := by decide +kernel
theorem dX0_divide_46 : decode cX0_divide 46 = .ok (.if_icmp .eq 50, 3) := by decide +kernel
theorem dX0_divide_49 : decode cX0_divide 49 = .ok (.aload_n 0, 1) := by decide +kernel
theorem dX0_divide_50 : decode cX0_divide 50 = .ok (.invokevirtual 25, 3) := by decide +kernel
theorem dX0_divide_53 : decode cX0_divide 53 = .ok (.istore 5, 2) := by decide +kernel
theorem dX0_divide_55 : decode cX0_divide 55 = .ok (.aload_n 0, 1) := by decide +kernel
theorem dX0_divide_56 : decode cX0_divide 56 = .ok (.iload_n 2, 1) := by decide +kernel
theorem dX0_divide_57 : decode cX0_divide 57 = .ok (.iload 5, 2) := by decide +kernel
theorem dX0_divide_59 : decode cX0_divide 59 = .ok (.invokevirtual 28, 3) := by decide +kernel
theorem dX0_divide_62 : decode cX0_divide 62 = .ok (.istore 6, 2) := by decide +kernel
theorem dX0_divide_64 : decode cX0_divide 64 = .ok (.iload_n 2, 1) := by decide +kernel
theorem dX0_divide_65 : decode cX0_divide 65 = .ok (.iload 6, 2) := by decide +kernel
theorem dX0_divide_67 : decode cX0_divide 67 = .ok (.ifCond .le 8, 3) := by decide +kernel
theorem dX0_divide_70 : decode cX0_divide 70 = .ok (.iload 6, 2) := by decide +kernel
theorem dX0_divide_72 : decode cX0_divide 72 = .ok (.goto 11, 3) := by decide +kernel
theorem dX0_divide_75 : decode cX0_divide 75 = .ok (.aload_n 0, 1) := by decide +kernel
theorem dX0_divide_76 : decode cX0_divide 76 = .ok (.iload_n 3, 1) := by decide +kernel
theorem dX0_divide_77 : decode cX0_divide 77 = .ok (.iload_n 2, 1) := by decide +kernel
theorem dX0_divide_78 : decode cX0_divide 78 = .ok (.iload 5, 2) := by decide +kernel
theorem dX0_divide_80 : decode cX0_divide 80 = .ok (.invokevirtual 32, 3) := by decide +kernel
theorem dX0_divide_83 : decode cX0_divide 83 = .ok (.isub, 1) := by decide +kernel
theorem dX0_divide_84 : decode cX0_divide 84 = .ok (.istore_n 2, 1) := by decide +kernel
theorem dX0_divide_85 : decode cX0_divide 85 = .ok (.aload_n 0, 1) := by decide +kernel
theorem dX0_divide_86 : decode cX0_divide 86 = .ok (.invokevirtual 21, 3) := by decide +kernel
theorem dX0_divide_89 : decode cX0_divide 89 = .ok (.istore_n 3, 1) := by decide +kernel
theorem dX0_divide_90 : decode cX0_divide 90 = .ok (.iinc 4 1, 3) := by decide +kernel
theorem dX0_divide_93 : decode cX0_divide 93 = .ok (.goto (-62), 3) := by decide +kernel
theorem dX0_divide_96 : decode cX0_divide 96 = .ok (.return_, 1) := by decide +kernel
theorem dX0_isWanting_0 : decode cX0_isWanting 0 = .ok (.aload_n 0, 1) := by decide +kernel
theorem dX0_isWanting_1 : decode cX0_isWanting 1 = .ok (.getfield 18, 3) := by decide +kernel
theorem dX0_isWanting_4 : decode cX0_isWanting 4 = .ok (.iload_n 1, 1) := by decide +kernel
theorem dX0_isWanting_5 : decode cX0_isWanting 5 = .ok (.iaload, 1) := by decide +kernel
theorem dX0_isWanting_6 : decode cX0_isWanting 6 = .ok (.aload_n 0, 1) := by decide +kernel
theorem dX0_isWanting_7 : decode cX0_isWanting 7 = .ok (.getfield 9, 3) := by decide +kernel
theorem dX0_isWanting_10 : decode cX0_isWanting 10 = .ok (.iload_n 1, 1) := by decide +kernel
theorem dX0_isWanting_11 : decode cX0_isWanting 11 = .ok (.iaload, 1) := by decide +kernel
theorem dX0_isWanting_12 : decode cX0_isWanting 12 = .ok (.if_icmp .ge 7, 3) := by decide +kernel
theorem dX0_isWanting_15 : decode cX0_isWanting 15 = .ok (.iconst 1, 1) := by decide +kernel
theorem dX0_isWanting_16 : decode cX0_isWanting 16 = .ok (.goto 4, 3) := by decide +kernel
theorem dX0_isWanting_19 : decode cX0_isWanting 19 = .ok (.iconst 0, 1) := by decide +kernel
theorem dX0_isWanting_20 : decode cX0_isWanting 20 = .ok (.ireturn, 1) := by decide +kernel
theorem dX0_lowestWanting_0 : decode cX0_lowestWanting 0 = .ok (.iconst 0, 1) := by decide +kernel
theorem dX0_lowestWanting_1 : decode cX0_lowestWanting 1 = .ok (.istore_n 1, 1) := by decide +kernel
theorem dX0_lowestWanting_2 : decode cX0_lowestWanting 2 = .ok (.iload_n 1, 1) := by decide +kernel
theorem dX0_lowestWanting_3 : decode cX0_lowestWanting 3 = .ok (.bipush 8, 2) := by decide +kernel
theorem dX0_lowestWanting_5 : decode cX0_lowestWanting 5 = .ok (.if_icmp .ge 19, 3) := by decide +kernel
theorem dX0_lowestWanting_8 : decode cX0_lowestWanting 8 = .ok (.aload_n 0, 1) := by decide +kernel
theorem dX0_lowestWanting_9 : decode cX0_lowestWanting 9 = .ok (.iload_n 1, 1) := by decide +kernel
theorem dX0_lowestWanting_10 : decode cX0_lowestWanting 10 = .ok (.invokevirtual 36, 3) := by decide +kernel
theorem dX0_lowestWanting_13 : decode cX0_lowestWanting 13 = .ok (.ifCond .eq 5, 3) := by decide +kernel
theorem dX0_lowestWanting_16 : decode cX0_lowestWanting 16 = .ok (.iload_n 1, 1) := by decide +kernel
theorem dX0_lowestWanting_17 : decode cX0_lowestWanting 17 = .ok (.ireturn, 1) := by decide +kernel
theorem dX0_lowestWanting_18 : decode cX0_lowestWanting 18 = .ok (.iinc 1 1, 3) := by decide +kernel
theorem dX0_lowestWanting_21 : decode cX0_lowestWanting 21 = .ok (.goto (-19), 3) := by decide +kernel
theorem dX0_lowestWanting_24 : decode cX0_lowestWanting 24 = .ok (.bipush (-5), 2) := by decide +kernel
theorem dX0_lowestWanting_26 : decode cX0_lowestWanting 26 = .ok (.ireturn, 1) := by decide +kernel
theorem dX0_sharesOfWanting_0 : decode cX0_sharesOfWanting 0 = .ok (.iconst 0, 1) := by decide +kernel
theorem dX0_sharesOfWanting_1 : decode cX0_sharesOfWanting 1 = .ok (.istore_n 1, 1) := by decide +kernel
theorem dX0_sharesOfWanting_2 : decode cX0_sharesOfWanting 2 = .ok (.iconst 0, 1) := by decide +kernel
theorem dX0_sharesOfWanting_3 : decode cX0_sharesOfWanting 3 = .ok (.istore_n 2, 1) := by decide +kernel
theorem dX0_sharesOfWanting_4 : decode cX0_sharesOfWanting 4 = .ok (.iload_n 2, 1) := by decide +kernel
theorem dX0_sharesOfWanting_5 : decode cX0_sharesOfWanting 5 = .ok (.bipush 8, 2) := by decide +kernel
theorem dX0_sharesOfWanting_7 : decode cX0_sharesOfWanting 7 = .ok (.if_icmp .ge 30, 3) := by decide +kernel
theorem dX0_sharesOfWanting_10 : decode cX0_sharesOfWanting 10 = .ok (.iload_n 1, 1) := by decide +kernel
theorem dX0_sharesOfWanting_11 : decode cX0_sharesOfWanting 11 = .ok (.aload_n 0, 1) := by decide +kernel
theorem dX0_sharesOfWanting_12 : decode cX0_sharesOfWanting 12 = .ok (.iload_n 2, 1) := by decide +kernel
theorem dX0_sharesOfWanting_13 : decode cX0_sharesOfWanting 13 = .ok (.invokevirtual 36, 3) := by decide +kernel
theorem dX0_sharesOfWanting_16 : decode cX0_sharesOfWanting 16 = .ok (.ifCond .eq 12, 3) := by decide +kernel
theorem dX0_sharesOfWanting_19 : decode cX0_sharesOfWanting 19 = .ok (.aload_n 0, 1) := by decide +kernel
theorem dX0_sharesOfWanting_20 : decode cX0_sharesOfWanting 20 = .ok (.getfield 15, 3) := by decide +kernel
theorem dX0_sharesOfWanting_23 : decode cX0_sharesOfWanting 23 = .ok (.iload_n 2, 1) := by decide +kernel
theorem dX0_sharesOfWanting_24 : decode cX0_sharesOfWanting 24 = .ok (.iaload, 1) := by decide +kernel
theorem dX0_sharesOfWanting_25 : decode cX0_sharesOfWanting 25 = .ok (.goto 4, 3) := by decide +kernel
theorem dX0_sharesOfWanting_28 : decode cX0_sharesOfWanting 28 = .ok (.iconst 0, 1) := by decide +kernel
theorem dX0_sharesOfWanting_29 : decode cX0_sharesOfWanting 29 = .ok (.iadd, 1) := by decide +kernel
theorem dX0_sharesOfWanting_30 : decode cX0_sharesOfWanting 30 = .ok (.istore_n 1, 1) := by decide +kernel
theorem dX0_sharesOfWanting_31 : decode cX0_sharesOfWanting 31 = .ok (.iinc 2 1, 3) := by decide +kernel
theorem dX0_sharesOfWanting_34 : decode cX0_sharesOfWanting 34 = .ok (.goto (-30), 3) := by decide +kernel
theorem dX0_sharesOfWanting_37 : decode cX0_sharesOfWanting 37 = .ok (.iload_n 1, 1) := by decide +kernel
theorem dX0_sharesOfWanting_38 : decode cX0_sharesOfWanting 38 = .ok (.ireturn, 1) := by decide +kernel
theorem dX0_giveParts_0 : decode cX0_giveParts 0 = .ok (.iconst 0, 1) := by decide +kernel
theorem dX0_giveParts_1 : decode cX0_giveParts 1 = .ok (.istore_n 3, 1) := by decide +kernel
theorem dX0_giveParts_2 : decode cX0_giveParts 2 = .ok (.iconst 0, 1) := by decide +kernel
theorem dX0_giveParts_3 : decode cX0_giveParts 3 = .ok (.istore 4, 2) := by decide +kernel
theorem dX0_giveParts_5 : decode cX0_giveParts 5 = .ok (.iload_n 2, 1) := by decide +kernel
theorem dX0_giveParts_6 : decode cX0_giveParts 6 = .ok (.ifCond .le 64, 3) := by decide +kernel
theorem dX0_giveParts_9 : decode cX0_giveParts 9 = .ok (.iload 4, 2) := by decide +kernel
theorem dX0_giveParts_11 : decode cX0_giveParts 11 = .ok (.bipush 8, 2) := by decide +kernel
theorem dX0_giveParts_13 : decode cX0_giveParts 13 = .ok (.if_icmp .ge 57, 3) := by decide +kernel
theorem dX0_giveParts_16 : decode cX0_giveParts 16 = .ok (.iload_n 1, 1) := by decide +kernel
theorem dX0_giveParts_17 : decode cX0_giveParts 17 = .ok (.aload_n 0, 1) := by decide +kernel
theorem dX0_giveParts_18 : decode cX0_giveParts 18 = .ok (.getfield 15, 3) := by decide +kernel
theorem dX0_giveParts_21 : decode cX0_giveParts 21 = .ok (.iload 4, 2) := by decide +kernel
theorem dX0_giveParts_23 : decode cX0_giveParts 23 = .ok (.iaload, 1) := by decide +kernel
theorem dX0_giveParts_24 : decode cX0_giveParts 24 = .ok (.imul, 1) := by decide +kernel
theorem dX0_giveParts_25 : decode cX0_giveParts 25 = .ok (.iload_n 2, 1) := by decide +kernel
theorem dX0_giveParts_26 : decode cX0_giveParts 26 = .ok (.idiv, 1) := by decide +kernel
theorem dX0_giveParts_27 : decode cX0_giveParts 27 = .ok (.aload_n 0, 1) := by decide +kernel
theorem dX0_giveParts_28 : decode cX0_giveParts 28 = .ok (.getfield 9, 3) := by decide +kernel
theorem dX0_giveParts_31 : decode cX0_giveParts 31 = .ok (.iload 4, 2) := by decide +kernel
theorem dX0_giveParts_33 : decode cX0_giveParts 33 = .ok (.iaload, 1) := by decide +kernel
theorem dX0_giveParts_34 : decode cX0_giveParts 34 = .ok (.aload_n 0, 1) := by decide +kernel
theorem dX0_giveParts_35 : decode cX0_giveParts 35 = .ok (.getfield 18, 3) := by decide +kernel
theorem dX0_giveParts_38 : decode cX0_giveParts 38 = .ok (.iload 4, 2) := by decide +kernel
theorem dX0_giveParts_40 : decode cX0_giveParts 40 = .ok (.iaload, 1) := by decide +kernel
theorem dX0_giveParts_41 : decode cX0_giveParts 41 = .ok (.isub, 1) := by decide +kernel
theorem dX0_giveParts_42 : decode cX0_giveParts 42 = .ok (.invokestatic 40, 3) := by decide +kernel
theorem dX0_giveParts_45 : decode cX0_giveParts 45 = .ok (.istore 5, 2) := by decide +kernel
theorem dX0_giveParts_47 : decode cX0_giveParts 47 = .ok (.aload_n 0, 1) := by decide +kernel
theorem dX0_giveParts_48 : decode cX0_giveParts 48 = .ok (.getfield 18, 3) := by decide +kernel
theorem dX0_giveParts_51 : decode cX0_giveParts 51 = .ok (.iload 4, 2) := by decide +kernel
theorem dX0_giveParts_53 : decode cX0_giveParts 53 = .ok (.dup2, 1) := by decide +kernel
theorem dX0_giveParts_54 : decode cX0_giveParts 54 = .ok (.iaload, 1) := by decide +kernel
theorem dX0_giveParts_55 : decode cX0_giveParts 55 = .ok (.iload 5, 2) := by decide +kernel
theorem dX0_giveParts_57 : decode cX0_giveParts 57 = .ok (.iadd, 1) := by decide +kernel
theorem dX0_giveParts_58 : decode cX0_giveParts 58 = .ok (.iastore, 1) := by decide +kernel
theorem dX0_giveParts_59 : decode cX0_giveParts 59 = .ok (.iload_n 3, 1) := by decide +kernel
theorem dX0_giveParts_60 : decode cX0_giveParts 60 = .ok (.iload 5, 2) := by decide +kernel
theorem dX0_giveParts_62 : decode cX0_giveParts 62 = .ok (.iadd, 1) := by decide +kernel
theorem dX0_giveParts_63 : decode cX0_giveParts 63 = .ok (.istore_n 3, 1) := by decide +kernel
theorem dX0_giveParts_64 : decode cX0_giveParts 64 = .ok (.iinc 4 1, 3) := by decide +kernel
theorem dX0_giveParts_67 : decode cX0_giveParts 67 = .ok (.goto (-62), 3) := by decide +kernel
theorem dX0_giveParts_70 : decode cX0_giveParts 70 = .ok (.iload_n 3, 1) := by decide +kernel
theorem dX0_giveParts_71 : decode cX0_giveParts 71 = .ok (.ireturn, 1) := by decide +kernel
theorem dX0_giveLowest_0 : decode cX0_giveLowest 0 = .ok (.iload_n 3, 1) := by decide +kernel
theorem dX0_giveLowest_1 : decode cX0_giveLowest 1 = .ok (.ifCond .le 7, 3) := by decide +kernel
theorem dX0_giveLowest_4 : decode cX0_giveLowest 4 = .ok (.iconst 1, 1) := by decide +kernel
theorem dX0_giveLowest_5 : decode cX0_giveLowest 5 = .ok (.goto 20, 3) := by decide +kernel
theorem dX0_giveLowest_8 : decode cX0_giveLowest 8 = .ok (.iload_n 2, 1) := by decide +kernel
theorem dX0_giveLowest_9 : decode cX0_giveLowest 9 = .ok (.aload_n 0, 1) := by decide +kernel
theorem dX0_giveLowest_10 : decode cX0_giveLowest 10 = .ok (.getfield 9, 3) := by decide +kernel
theorem dX0_giveLowest_13 : decode cX0_giveLowest 13 = .ok (.iload_n 1, 1) := by decide +kernel
theorem dX0_giveLowest_14 : decode cX0_giveLowest 14 = .ok (.iaload, 1) := by decide +kernel
theorem dX0_giveLowest_15 : decode cX0_giveLowest 15 = .ok (.aload_n 0, 1) := by decide +kernel
theorem dX0_giveLowest_16 : decode cX0_giveLowest 16 = .ok (.getfield 18, 3) := by decide +kernel
theorem dX0_giveLowest_19 : decode cX0_giveLowest 19 = .ok (.iload_n 1, 1) := by decide +kernel
theorem dX0_giveLowest_20 : decode cX0_giveLowest 20 = .ok (.iaload, 1) := by decide +kernel
theorem dX0_giveLowest_21 : decode cX0_giveLowest 21 = .ok (.isub, 1) := by decide +kernel
theorem dX0_giveLowest_22 : decode cX0_giveLowest 22 = .ok (.invokestatic 40, 3) := by decide +kernel
theorem dX0_giveLowest_25 : decode cX0_giveLowest 25 = .ok (.istore 4, 2) := by decide +kernel
theorem dX0_giveLowest_27 : decode cX0_giveLowest 27 = .ok (.aload_n 0, 1) := by decide +kernel
theorem dX0_giveLowest_28 : decode cX0_giveLowest 28 = .ok (.getfield 18, 3) := by decide +kernel
theorem dX0_giveLowest_31 : decode cX0_giveLowest 31 = .ok (.iload_n 1, 1) := by decide +kernel
theorem dX0_giveLowest_32 : decode cX0_giveLowest 32 = .ok (.dup2, 1) := by decide +kernel
theorem dX0_giveLowest_33 : decode cX0_giveLowest 33 = .ok (.iaload, 1) := by decide +kernel
theorem dX0_giveLowest_34 : decode cX0_giveLowest 34 = .ok (.iload 4, 2) := by decide +kernel
theorem dX0_giveLowest_36 : decode cX0_giveLowest 36 = .ok (.iadd, 1) := by decide +kernel
theorem dX0_giveLowest_37 : decode cX0_giveLowest 37 = .ok (.iastore, 1) := by decide +kernel
theorem dX0_giveLowest_38 : decode cX0_giveLowest 38 = .ok (.iload 4, 2) := by decide +kernel
theorem dX0_giveLowest_40 : decode cX0_giveLowest 40 = .ok (.ireturn, 1) := by decide +kernel
theorem dX1_init_0 : decode cX1_init 0 = .ok (.aload_n 0, 1) := by decide +kernel
theorem dX1_init_1 : decode cX1_init 1 = .ok (.invokespecial 3, 3) := by decide +kernel
theorem dX1_init_4 : decode cX1_init 4 = .ok (.aload_n 0, 1) := by decide +kernel
theorem dX1_init_5 : decode cX1_init 5 = .ok (.iconst 4, 1) := by decide +kernel
theorem dX1_init_6 : decode cX1_init 6 = .ok (.anewarray 9, 3) := by decide +kernel
theorem dX1_init_9 : decode cX1_init 9 = .ok (.putfield 11, 3) := by decide +kernel
theorem dX1_init_12 : decode cX1_init 12 = .ok (.aload_n 0, 1) := by decide +kernel
theorem dX1_init_13 : decode cX1_init 13 = .ok (.iconst 0, 1) := by decide +kernel
theorem dX1_init_14 : decode cX1_init 14 = .ok (.putfield 17, 3) := by decide +kernel
theorem dX1_init_17 : decode cX1_init 17 = .ok (.iconst 0, 1) := by decide +kernel
theorem dX1_init_18 : decode cX1_init 18 = .ok (.istore_n 1, 1) := by decide +kernel
theorem dX1_init_19 : decode cX1_init 19 = .ok (.iload_n 1, 1) := by decide +kernel
theorem dX1_init_20 : decode cX1_init 20 = .ok (.iconst 4, 1) := by decide +kernel
theorem dX1_init_21 : decode cX1_init 21 = .ok (.if_icmp .ge 22, 3) := by decide +kernel
theorem dX1_init_24 : decode cX1_init 24 = .ok (.aload_n 0, 1) := by decide +kernel
theorem dX1_init_25 : decode cX1_init 25 = .ok (.getfield 11, 3) := by decide +kernel
theorem dX1_init_28 : decode cX1_init 28 = .ok (.iload_n 1, 1) := by decide +kernel
theorem dX1_init_29 : decode cX1_init 29 = .ok (.new 9, 3) := by decide +kernel
theorem dX1_init_32 : decode cX1_init 32 = .ok (.dup, 1) := by decide +kernel
theorem dX1_init_33 : decode cX1_init 33 = .ok (.invokespecial 21, 3) := by decide +kernel
theorem dX1_init_36 : decode cX1_init 36 = .ok (.aastore, 1) := by decide +kernel
theorem dX1_init_37 : decode cX1_init 37 = .ok (.iinc 1 1, 3) := by decide +kernel
theorem dX1_init_40 : decode cX1_init 40 = .ok (.goto (-21), 3) := by decide +kernel
theorem dX1_init_43 : decode cX1_init 43 = .ok (.return_, 1) := by decide +kernel
theorem dX1_record_0 : decode cX1_record 0 = .ok (.aload_n 0, 1) := by decide +kernel
theorem dX1_record_1 : decode cX1_record 1 = .ok (.getfield 17, 3) := by decide +kernel
theorem dX1_record_4 : decode cX1_record 4 = .ok (.iconst 4, 1) := by decide +kernel
theorem dX1_record_5 : decode cX1_record 5 = .ok (.if_icmp .ne 7, 3) := by decide +kernel
theorem dX1_record_8 : decode cX1_record 8 = .ok (.aload_n 0, 1) := by decide +kernel
theorem dX1_record_9 : decode cX1_record 9 = .ok (.invokevirtual 22, 3) := by decide +kernel
theorem dX1_record_12 : decode cX1_record 12 = .ok (.aload_n 0, 1) := by decide +kernel
theorem dX1_record_13 : decode cX1_record 13 = .ok (.getfield 11, 3) := by decide +kernel
theorem dX1_record_16 : decode cX1_record 16 = .ok (.aload_n 0, 1) := by decide +kernel
theorem dX1_record_17 : decode cX1_record 17 = .ok (.getfield 17, 3) := by decide +kernel
theorem dX1_record_20 : decode cX1_record 20 = .ok (.aaload, 1) := by decide +kernel
theorem dX1_record_21 : decode cX1_record 21 = .ok (.aload_n 1, 1) := by decide +kernel
theorem dX1_record_22 : decode cX1_record 22 = .ok (.invokevirtual 25, 3) := by decide +kernel
theorem dX1_record_25 : decode cX1_record 25 = .ok (.aload_n 0, 1) := by decide +kernel
theorem dX1_record_26 : decode cX1_record 26 = .ok (.dup, 1) := by decide +kernel
theorem dX1_record_27 : decode cX1_record 27 = .ok (.getfield 17, 3) := by decide +kernel
theorem dX1_record_30 : decode cX1_record 30 = .ok (.iconst 1, 1) := by decide +kernel
theorem dX1_record_31 : decode cX1_record 31 = .ok (.iadd, 1) := by decide +kernel
theorem dX1_record_32 : decode cX1_record 32 = .ok (.putfield 17, 3) := by decide +kernel
theorem dX1_record_35 : decode cX1_record 35 = .ok (.return_, 1) := by decide +kernel
theorem dX1_dropOldest_0 : decode cX1_dropOldest 0 = .ok (.aload_n 0, 1) := by decide +kernel
theorem dX1_dropOldest_1 : decode cX1_dropOldest 1 = .ok (.getfield 11, 3) := by decide +kernel
theorem dX1_dropOldest_4 : decode cX1_dropOldest 4 = .ok (.iconst 0, 1) := by decide +kernel
theorem dX1_dropOldest_5 : decode cX1_dropOldest 5 = .ok (.aaload, 1) := by decide +kernel
theorem dX1_dropOldest_6 : decode cX1_dropOldest 6 = .ok (.astore_n 1, 1) := by decide +kernel
theorem dX1_dropOldest_7 : decode cX1_dropOldest 7 = .ok (.iconst 1, 1) := by decide +kernel
theorem dX1_dropOldest_8 : decode cX1_dropOldest 8 = .ok (.istore_n 2, 1) := by decide +kernel
theorem dX1_dropOldest_9 : decode cX1_dropOldest 9 = .ok (.iload_n 2, 1) := by decide +kernel
theorem dX1_dropOldest_10 : decode cX1_dropOldest 10 = .ok (.iconst 4, 1) := by decide +kernel
theorem dX1_dropOldest_11 : decode cX1_dropOldest 11 = .ok (.if_icmp .ge 23, 3) := by decide +kernel
theorem dX1_dropOldest_14 : decode cX1_dropOldest 14 = .ok (.aload_n 0, 1) := by decide +kernel
theorem dX1_dropOldest_15 : decode cX1_dropOldest 15 = .ok (.getfield 11, 3) := by decide +kernel
theorem dX1_dropOldest_18 : decode cX1_dropOldest 18 = .ok (.iload_n 2, 1) := by decide +kernel
theorem dX1_dropOldest_19 : decode cX1_dropOldest 19 = .ok (.iconst 1, 1) := by decide +kernel
theorem dX1_dropOldest_20 : decode cX1_dropOldest 20 = .ok (.isub, 1) := by decide +kernel
theorem dX1_dropOldest_21 : decode cX1_dropOldest 21 = .ok (.aload_n 0, 1) := by decide +kernel
theorem dX1_dropOldest_22 : decode cX1_dropOldest 22 = .ok (.getfield 11, 3) := by decide +kernel
theorem dX1_dropOldest_25 : decode cX1_dropOldest 25 = .ok (.iload_n 2, 1) := by decide +kernel
theorem dX1_dropOldest_26 : decode cX1_dropOldest 26 = .ok (.aaload, 1) := by decide +kernel
theorem dX1_dropOldest_27 : decode cX1_dropOldest 27 = .ok (.aastore, 1) := by decide +kernel
theorem dX1_dropOldest_28 : decode cX1_dropOldest 28 = .ok (.iinc 2 1, 3) := by decide +kernel
theorem dX1_dropOldest_31 : decode cX1_dropOldest 31 = .ok (.goto (-22), 3) := by decide +kernel
theorem dX1_dropOldest_34 : decode cX1_dropOldest 34 = .ok (.aload_n 0, 1) := by decide +kernel
theorem dX1_dropOldest_35 : decode cX1_dropOldest 35 = .ok (.getfield 11, 3) := by decide +kernel
theorem dX1_dropOldest_38 : decode cX1_dropOldest 38 = .ok (.iconst 3, 1) := by decide +kernel
theorem dX1_dropOldest_39 : decode cX1_dropOldest 39 = .ok (.aload_n 1, 1) := by decide +kernel
theorem dX1_dropOldest_40 : decode cX1_dropOldest 40 = .ok (.aastore, 1) := by decide +kernel
theorem dX1_dropOldest_41 : decode cX1_dropOldest 41 = .ok (.aload_n 0, 1) := by decide +kernel
theorem dX1_dropOldest_42 : decode cX1_dropOldest 42 = .ok (.dup, 1) := by decide +kernel
theorem dX1_dropOldest_43 : decode cX1_dropOldest 43 = .ok (.getfield 17, 3) := by decide +kernel
theorem dX1_dropOldest_46 : decode cX1_dropOldest 46 = .ok (.iconst 1, 1) := by decide +kernel
theorem dX1_dropOldest_47 : decode cX1_dropOldest 47 = .ok (.isub, 1) := by decide +kernel
theorem dX1_dropOldest_48 : decode cX1_dropOldest 48 = .ok (.putfield 17, 3) := by decide +kernel
theorem dX1_dropOldest_51 : decode cX1_dropOldest 51 = .ok (.return_, 1) := by decide +kernel
theorem dX1_takeBack_0 : decode cX1_takeBack 0 = .ok (.aload_n 0, 1) := by decide +kernel
theorem dX1_takeBack_1 : decode cX1_takeBack 1 = .ok (.getfield 17, 3) := by decide +kernel
theorem dX1_takeBack_4 : decode cX1_takeBack 4 = .ok (.ifCond .ne 5, 3) := by decide +kernel
theorem dX1_takeBack_7 : decode cX1_takeBack 7 = .ok (.iconst 0, 1) := by decide +kernel
theorem dX1_takeBack_8 : decode cX1_takeBack 8 = .ok (.ireturn, 1) := by decide +kernel
theorem dX1_takeBack_9 : decode cX1_takeBack 9 = .ok (.aload_n 0, 1) := by decide +kernel
theorem dX1_takeBack_10 : decode cX1_takeBack 10 = .ok (.dup, 1) := by decide +kernel
theorem dX1_takeBack_11 : decode cX1_takeBack 11 = .ok (.getfield 17, 3) := by decide +kernel
theorem dX1_takeBack_14 : decode cX1_takeBack 14 = .ok (.iconst 1, 1) := by decide +kernel
theorem dX1_takeBack_15 : decode cX1_takeBack 15 = .ok (.isub, 1) := by decide +kernel
theorem dX1_takeBack_16 : decode cX1_takeBack 16 = .ok (.putfield 17, 3) := by decide +kernel
theorem dX1_takeBack_19 : decode cX1_takeBack 19 = .ok (.aload_n 1, 1) := by decide +kernel
theorem dX1_takeBack_20 : decode cX1_takeBack 20 = .ok (.aload_n 0, 1) := by decide +kernel
theorem dX1_takeBack_21 : decode cX1_takeBack 21 = .ok (.getfield 11, 3) := by decide +kernel
theorem dX1_takeBack_24 : decode cX1_takeBack 24 = .ok (.aload_n 0, 1) := by decide +kernel
theorem dX1_takeBack_25 : decode cX1_takeBack 25 = .ok (.getfield 17, 3) := by decide +kernel
theorem dX1_takeBack_28 : decode cX1_takeBack 28 = .ok (.aaload, 1) := by decide +kernel
theorem dX1_takeBack_29 : decode cX1_takeBack 29 = .ok (.invokevirtual 25, 3) := by decide +kernel
theorem dX1_takeBack_32 : decode cX1_takeBack 32 = .ok (.iconst 1, 1) := by decide +kernel
theorem dX1_takeBack_33 : decode cX1_takeBack 33 = .ok (.ireturn, 1) := by decide +kernel
theorem dX2_init_0 : decode cX2_init 0 = .ok (.aload_n 0, 1) := by decide +kernel
theorem dX2_init_1 : decode cX2_init 1 = .ok (.invokespecial 3, 3) := by decide +kernel
theorem dX2_init_4 : decode cX2_init 4 = .ok (.aload_n 0, 1) := by decide +kernel
theorem dX2_init_5 : decode cX2_init 5 = .ok (.iconst 0, 1) := by decide +kernel
theorem dX2_init_6 : decode cX2_init 6 = .ok (.putfield 9, 3) := by decide +kernel
theorem dX2_init_9 : decode cX2_init 9 = .ok (.aload_n 0, 1) := by decide +kernel
theorem dX2_init_10 : decode cX2_init 10 = .ok (.iconst 0, 1) := by decide +kernel
theorem dX2_init_11 : decode cX2_init 11 = .ok (.putfield 15, 3) := by decide +kernel
theorem dX2_init_14 : decode cX2_init 14 = .ok (.aload_n 0, 1) := by decide +kernel
theorem dX2_init_15 : decode cX2_init 15 = .ok (.iconst 0, 1) := by decide +kernel
theorem dX2_init_16 : decode cX2_init 16 = .ok (.putfield 18, 3) := by decide +kernel
theorem dX2_init_19 : decode cX2_init 19 = .ok (.aload_n 0, 1) := by decide +kernel
theorem dX2_init_20 : decode cX2_init 20 = .ok (.iconst 0, 1) := by decide +kernel
theorem dX2_init_21 : decode cX2_init 21 = .ok (.putfield 21, 3) := by decide +kernel
theorem dX2_init_24 : decode cX2_init 24 = .ok (.aload_n 0, 1) := by decide +kernel
theorem dX2_init_25 : decode cX2_init 25 = .ok (.iconst 0, 1) := by decide +kernel
theorem dX2_init_26 : decode cX2_init 26 = .ok (.putfield 24, 3) := by decide +kernel
theorem dX2_init_29 : decode cX2_init 29 = .ok (.aload_n 0, 1) := by decide +kernel
theorem dX2_init_30 : decode cX2_init 30 = .ok (.iconst 0, 1) := by decide +kernel
theorem dX2_init_31 : decode cX2_init 31 = .ok (.putfield 27, 3) := by decide +kernel
theorem dX2_init_34 : decode cX2_init 34 = .ok (.aload_n 0, 1) := by decide +kernel
theorem dX2_init_35 : decode cX2_init 35 = .ok (.iconst 0, 1) := by decide +kernel
theorem dX2_init_36 : decode cX2_init 36 = .ok (.putfield 30, 3) := by decide +kernel
theorem dX2_init_39 : decode cX2_init 39 = .ok (.aload_n 0, 1) := by decide +kernel
theorem dX2_init_40 : decode cX2_init 40 = .ok (.iconst 0, 1) := by decide +kernel
theorem dX2_init_41 : decode cX2_init 41 = .ok (.putfield 33, 3) := by decide +kernel
theorem dX2_init_44 : decode cX2_init 44 = .ok (.aload_n 0, 1) := by decide +kernel
theorem dX2_init_45 : decode cX2_init 45 = .ok (.iconst 0, 1) := by decide +kernel
theorem dX2_init_46 : decode cX2_init 46 = .ok (.putfield 36, 3) := by decide +kernel
theorem dX2_init_49 : decode cX2_init 49 = .ok (.aload_n 0, 1) := by decide +kernel
theorem dX2_init_50 : decode cX2_init 50 = .ok (.new 39, 3) := by decide +kernel
theorem dX2_init_53 : decode cX2_init 53 = .ok (.dup, 1) := by decide +kernel
theorem dX2_init_54 : decode cX2_init 54 = .ok (.aload_n 1, 1) := by decide +kernel
theorem dX2_init_55 : decode cX2_init 55 = .ok (.invokespecial 41, 3) := by decide +kernel
theorem dX2_init_58 : decode cX2_init 58 = .ok (.putfield 44, 3) := by decide +kernel
theorem dX2_init_61 : decode cX2_init 61 = .ok (.return_, 1) := by decide +kernel
theorem dX2_copyFrom_0 : decode cX2_copyFrom 0 = .ok (.aload_n 0, 1) := by decide +kernel
theorem dX2_copyFrom_1 : decode cX2_copyFrom 1 = .ok (.getfield 44, 3) := by decide +kernel
theorem dX2_copyFrom_4 : decode cX2_copyFrom 4 = .ok (.aload_n 1, 1) := by decide +kernel
theorem dX2_copyFrom_5 : decode cX2_copyFrom 5 = .ok (.getfield 44, 3) := by decide +kernel
theorem dX2_copyFrom_8 : decode cX2_copyFrom 8 = .ok (.invokevirtual 48, 3) := by decide +kernel
theorem dX2_copyFrom_11 : decode cX2_copyFrom 11 = .ok (.aload_n 0, 1) := by decide +kernel
theorem dX2_copyFrom_12 : decode cX2_copyFrom 12 = .ok (.aload_n 1, 1) := by decide +kernel
theorem dX2_copyFrom_13 : decode cX2_copyFrom 13 = .ok (.getfield 9, 3) := by decide +kernel
theorem dX2_copyFrom_16 : decode cX2_copyFrom 16 = .ok (.putfield 9, 3) := by decide +kernel
theorem dX2_copyFrom_19 : decode cX2_copyFrom 19 = .ok (.aload_n 0, 1) := by decide +kernel
theorem dX2_copyFrom_20 : decode cX2_copyFrom 20 = .ok (.aload_n 1, 1) := by decide +kernel
theorem dX2_copyFrom_21 : decode cX2_copyFrom 21 = .ok (.getfield 15, 3) := by decide +kernel
theorem dX2_copyFrom_24 : decode cX2_copyFrom 24 = .ok (.putfield 15, 3) := by decide +kernel
theorem dX2_copyFrom_27 : decode cX2_copyFrom 27 = .ok (.aload_n 0, 1) := by decide +kernel
theorem dX2_copyFrom_28 : decode cX2_copyFrom 28 = .ok (.aload_n 1, 1) := by decide +kernel
theorem dX2_copyFrom_29 : decode cX2_copyFrom 29 = .ok (.getfield 18, 3) := by decide +kernel
theorem dX2_copyFrom_32 : decode cX2_copyFrom 32 = .ok (.putfield 18, 3) := by decide +kernel
theorem dX2_copyFrom_35 : decode cX2_copyFrom 35 = .ok (.aload_n 0, 1) := by decide +kernel
theorem dX2_copyFrom_36 : decode cX2_copyFrom 36 = .ok (.aload_n 1, 1) := by decide +kernel
theorem dX2_copyFrom_37 : decode cX2_copyFrom 37 = .ok (.getfield 21, 3) := by decide +kernel
theorem dX2_copyFrom_40 : decode cX2_copyFrom 40 = .ok (.putfield 21, 3) := by decide +kernel
theorem dX2_copyFrom_43 : decode cX2_copyFrom 43 = .ok (.aload_n 0, 1) := by decide +kernel
theorem dX2_copyFrom_44 : decode cX2_copyFrom 44 = .ok (.aload_n 1, 1) := by decide +kernel
theorem dX2_copyFrom_45 : decode cX2_copyFrom 45 = .ok (.getfield 24, 3) := by decide +kernel
theorem dX2_copyFrom_48 : decode cX2_copyFrom 48 = .ok (.putfield 24, 3) := by decide +kernel
theorem dX2_copyFrom_51 : decode cX2_copyFrom 51 = .ok (.aload_n 0, 1) := by decide +kernel
theorem dX2_copyFrom_52 : decode cX2_copyFrom 52 = .ok (.aload_n 1, 1) := by decide +kernel
theorem dX2_copyFrom_53 : decode cX2_copyFrom 53 = .ok (.getfield 27, 3) := by decide +kernel
theorem dX2_copyFrom_56 : decode cX2_copyFrom 56 = .ok (.putfield 27, 3) := by decide +kernel
theorem dX2_copyFrom_59 : decode cX2_copyFrom 59 = .ok (.aload_n 0, 1) := by decide +kernel
theorem dX2_copyFrom_60 : decode cX2_copyFrom 60 = .ok (.aload_n 1, 1) := by decide +kernel
theorem dX2_copyFrom_61 : decode cX2_copyFrom 61 = .ok (.getfield 30, 3) := by decide +kernel
theorem dX2_copyFrom_64 : decode cX2_copyFrom 64 = .ok (.putfield 30, 3) := by decide +kernel
theorem dX2_copyFrom_67 : decode cX2_copyFrom 67 = .ok (.aload_n 0, 1) := by decide +kernel
theorem dX2_copyFrom_68 : decode cX2_copyFrom 68 = .ok (.aload_n 1, 1) := by decide +kernel
theorem dX2_copyFrom_69 : decode cX2_copyFrom 69 = .ok (.getfield 33, 3) := by decide +kernel
theorem dX2_copyFrom_72 : decode cX2_copyFrom 72 = .ok (.putfield 33, 3) := by decide +kernel
theorem dX2_copyFrom_75 : decode cX2_copyFrom 75 = .ok (.aload_n 0, 1) := by decide +kernel
theorem dX2_copyFrom_76 : decode cX2_copyFrom 76 = .ok (.aload_n 1, 1) := by decide +kernel
theorem dX2_copyFrom_77 : decode cX2_copyFrom 77 = .ok (.getfield 36, 3) := by decide +kernel
theorem dX2_copyFrom_80 : decode cX2_copyFrom 80 = .ok (.putfield 36, 3) := by decide +kernel
theorem dX2_copyFrom_83 : decode cX2_copyFrom 83 = .ok (.return_, 1) := by decide +kernel
theorem dX2_changePrice_0 : decode cX2_changePrice 0 = .ok (.aload_n 0, 1) := by decide +kernel
theorem dX2_changePrice_1 : decode cX2_changePrice 1 = .ok (.iconst 1, 1) := by decide +kernel
theorem dX2_changePrice_2 : decode cX2_changePrice 2 = .ok (.bipush 50, 2) := by decide +kernel
theorem dX2_changePrice_4 : decode cX2_changePrice 4 = .ok (.aload_n 0, 1) := by decide +kernel
theorem dX2_changePrice_5 : decode cX2_changePrice 5 = .ok (.getfield 15, 3) := by decide +kernel
theorem dX2_changePrice_8 : decode cX2_changePrice 8 = .ok (.iload_n 1, 1) := by decide +kernel
theorem dX2_changePrice_9 : decode cX2_changePrice 9 = .ok (.iadd, 1) := by decide +kernel
theorem dX2_changePrice_10 : decode cX2_changePrice 10 = .ok (.invokestatic 52, 3) := by decide +kernel
theorem dX2_changePrice_13 : decode cX2_changePrice 13 = .ok (.invokestatic 58, 3) := by decide +kernel
theorem dX2_changePrice_16 : decode cX2_changePrice 16 = .ok (.putfield 15, 3) := by decide +kernel
theorem dX2_changePrice_19 : decode cX2_changePrice 19 = .ok (.return_, 1) := by decide +kernel
theorem dX2_tell_0 : decode cX2_tell 0 = .ok (.iload_n 1, 1) := by decide +kernel
theorem dX2_tell_1 : decode cX2_tell 1 = .ok (.tableswitch 96 1 9 #[51, 56, 61, 66, 71, 76, 81, 86, 91], 51) := by decide +kernel
theorem dX2_tell_52 : decode cX2_tell 52 = .ok (.aload_n 0, 1) := by decide +kernel
theorem dX2_tell_53 : decode cX2_tell 53 = .ok (.getfield 9, 3) := by decide +kernel
theorem dX2_tell_56 : decode cX2_tell 56 = .ok (.ireturn, 1) := by decide +kernel
theorem dX2_tell_57 : decode cX2_tell 57 = .ok (.aload_n 0, 1) := by decide +kernel
theorem dX2_tell_58 : decode cX2_tell 58 = .ok (.getfield 15, 3) := by decide +kernel
theorem dX2_tell_61 : decode cX2_tell 61 = .ok (.ireturn, 1) := by decide +kernel
theorem dX2_tell_62 : decode cX2_tell 62 = .ok (.aload_n 0, 1) := by decide +kernel
theorem dX2_tell_63 : decode cX2_tell 63 = .ok (.getfield 18, 3) := by decide +kernel
theorem dX2_tell_66 : decode cX2_tell 66 = .ok (.ireturn, 1) := by decide +kernel
theorem dX2_tell_67 : decode cX2_tell 67 = .ok (.aload_n 0, 1) := by decide +kernel
theorem dX2_tell_68 : decode cX2_tell 68 = .ok (.getfield 21, 3) := by decide +kernel
theorem dX2_tell_71 : decode cX2_tell 71 = .ok (.ireturn, 1) := by decide +kernel
theorem dX2_tell_72 : decode cX2_tell 72 = .ok (.aload_n 0, 1) := by decide +kernel
theorem dX2_tell_73 : decode cX2_tell 73 = .ok (.getfield 24, 3) := by decide +kernel
theorem dX2_tell_76 : decode cX2_tell 76 = .ok (.ireturn, 1) := by decide +kernel
theorem dX2_tell_77 : decode cX2_tell 77 = .ok (.aload_n 0, 1) := by decide +kernel
theorem dX2_tell_78 : decode cX2_tell 78 = .ok (.getfield 27, 3) := by decide +kernel
theorem dX2_tell_81 : decode cX2_tell 81 = .ok (.ireturn, 1) := by decide +kernel
theorem dX2_tell_82 : decode cX2_tell 82 = .ok (.aload_n 0, 1) := by decide +kernel
theorem dX2_tell_83 : decode cX2_tell 83 = .ok (.getfield 30, 3) := by decide +kernel
theorem dX2_tell_86 : decode cX2_tell 86 = .ok (.ireturn, 1) := by decide +kernel
theorem dX2_tell_87 : decode cX2_tell 87 = .ok (.aload_n 0, 1) := by decide +kernel
theorem dX2_tell_88 : decode cX2_tell 88 = .ok (.getfield 33, 3) := by decide +kernel
theorem dX2_tell_91 : decode cX2_tell 91 = .ok (.ireturn, 1) := by decide +kernel
theorem dX2_tell_92 : decode cX2_tell 92 = .ok (.aload_n 0, 1) := by decide +kernel
theorem dX2_tell_93 : decode cX2_tell 93 = .ok (.getfield 36, 3) := by decide +kernel
theorem dX2_tell_96 : decode cX2_tell 96 = .ok (.ireturn, 1) := by decide +kernel
theorem dX2_tell_97 : decode cX2_tell 97 = .ok (.bipush (-2), 2) := by decide +kernel
theorem dX2_tell_99 : decode cX2_tell 99 = .ok (.ireturn, 1) := by decide +kernel
theorem dX3_init_0 : decode cX3_init 0 = .ok (.aload_n 0, 1) := by decide +kernel
theorem dX3_init_1 : decode cX3_init 1 = .ok (.invokespecial 3, 3) := by decide +kernel
theorem dX3_init_4 : decode cX3_init 4 = .ok (.aload_n 0, 1) := by decide +kernel
theorem dX3_init_5 : decode cX3_init 5 = .ok (.iconst 0, 1) := by decide +kernel
theorem dX3_init_6 : decode cX3_init 6 = .ok (.putfield 9, 3) := by decide +kernel
theorem dX3_init_9 : decode cX3_init 9 = .ok (.aload_n 0, 1) := by decide +kernel
theorem dX3_init_10 : decode cX3_init 10 = .ok (.iconst 0, 1) := by decide +kernel
theorem dX3_init_11 : decode cX3_init 11 = .ok (.putfield 15, 3) := by decide +kernel
theorem dX3_init_14 : decode cX3_init 14 = .ok (.aload_n 0, 1) := by decide +kernel
theorem dX3_init_15 : decode cX3_init 15 = .ok (.iconst 0, 1) := by decide +kernel
theorem dX3_init_16 : decode cX3_init 16 = .ok (.putfield 18, 3) := by decide +kernel
theorem dX3_init_19 : decode cX3_init 19 = .ok (.aload_n 0, 1) := by decide +kernel
theorem dX3_init_20 : decode cX3_init 20 = .ok (.iconst 0, 1) := by decide +kernel
theorem dX3_init_21 : decode cX3_init 21 = .ok (.putfield 21, 3) := by decide +kernel
theorem dX3_init_24 : decode cX3_init 24 = .ok (.aload_n 0, 1) := by decide +kernel
theorem dX3_init_25 : decode cX3_init 25 = .ok (.iconst 0, 1) := by decide +kernel
theorem dX3_init_26 : decode cX3_init 26 = .ok (.putfield 24, 3) := by decide +kernel
theorem dX3_init_29 : decode cX3_init 29 = .ok (.return_, 1) := by decide +kernel
theorem dX3_copyFrom_0 : decode cX3_copyFrom 0 = .ok (.aload_n 0, 1) := by decide +kernel
theorem dX3_copyFrom_1 : decode cX3_copyFrom 1 = .ok (.aload_n 1, 1) := by decide +kernel
theorem dX3_copyFrom_2 : decode cX3_copyFrom 2 = .ok (.getfield 9, 3) := by decide +kernel
theorem dX3_copyFrom_5 : decode cX3_copyFrom 5 = .ok (.putfield 9, 3) := by decide +kernel
theorem dX3_copyFrom_8 : decode cX3_copyFrom 8 = .ok (.aload_n 0, 1) := by decide +kernel
theorem dX3_copyFrom_9 : decode cX3_copyFrom 9 = .ok (.aload_n 1, 1) := by decide +kernel
theorem dX3_copyFrom_10 : decode cX3_copyFrom 10 = .ok (.getfield 15, 3) := by decide +kernel
theorem dX3_copyFrom_13 : decode cX3_copyFrom 13 = .ok (.putfield 15, 3) := by decide +kernel
theorem dX3_copyFrom_16 : decode cX3_copyFrom 16 = .ok (.aload_n 0, 1) := by decide +kernel
theorem dX3_copyFrom_17 : decode cX3_copyFrom 17 = .ok (.aload_n 1, 1) := by decide +kernel
theorem dX3_copyFrom_18 : decode cX3_copyFrom 18 = .ok (.getfield 18, 3) := by decide +kernel
theorem dX3_copyFrom_21 : decode cX3_copyFrom 21 = .ok (.putfield 18, 3) := by decide +kernel
theorem dX3_copyFrom_24 : decode cX3_copyFrom 24 = .ok (.aload_n 0, 1) := by decide +kernel
theorem dX3_copyFrom_25 : decode cX3_copyFrom 25 = .ok (.aload_n 1, 1) := by decide +kernel
theorem dX3_copyFrom_26 : decode cX3_copyFrom 26 = .ok (.getfield 21, 3) := by decide +kernel
theorem dX3_copyFrom_29 : decode cX3_copyFrom 29 = .ok (.putfield 21, 3) := by decide +kernel
theorem dX3_copyFrom_32 : decode cX3_copyFrom 32 = .ok (.aload_n 0, 1) := by decide +kernel
theorem dX3_copyFrom_33 : decode cX3_copyFrom 33 = .ok (.aload_n 1, 1) := by decide +kernel
theorem dX3_copyFrom_34 : decode cX3_copyFrom 34 = .ok (.getfield 24, 3) := by decide +kernel
theorem dX3_copyFrom_37 : decode cX3_copyFrom 37 = .ok (.putfield 24, 3) := by decide +kernel
theorem dX3_copyFrom_40 : decode cX3_copyFrom 40 = .ok (.return_, 1) := by decide +kernel
theorem dX3_tell_0 : decode cX3_tell 0 = .ok (.iload_n 1, 1) := by decide +kernel
theorem dX3_tell_1 : decode cX3_tell 1 = .ok (.tableswitch 60 0 4 #[35, 40, 45, 50, 55], 35) := by decide +kernel
theorem dX3_tell_36 : decode cX3_tell 36 = .ok (.aload_n 0, 1) := by decide +kernel
theorem dX3_tell_37 : decode cX3_tell 37 = .ok (.getfield 9, 3) := by decide +kernel
theorem dX3_tell_40 : decode cX3_tell 40 = .ok (.ireturn, 1) := by decide +kernel
theorem dX3_tell_41 : decode cX3_tell 41 = .ok (.aload_n 0, 1) := by decide +kernel
theorem dX3_tell_42 : decode cX3_tell 42 = .ok (.getfield 15, 3) := by decide +kernel
theorem dX3_tell_45 : decode cX3_tell 45 = .ok (.ireturn, 1) := by decide +kernel
theorem dX3_tell_46 : decode cX3_tell 46 = .ok (.aload_n 0, 1) := by decide +kernel
theorem dX3_tell_47 : decode cX3_tell 47 = .ok (.getfield 18, 3) := by decide +kernel
theorem dX3_tell_50 : decode cX3_tell 50 = .ok (.ireturn, 1) := by decide +kernel
theorem dX3_tell_51 : decode cX3_tell 51 = .ok (.aload_n 0, 1) := by decide +kernel
theorem dX3_tell_52 : decode cX3_tell 52 = .ok (.getfield 21, 3) := by decide +kernel
theorem dX3_tell_55 : decode cX3_tell 55 = .ok (.ireturn, 1) := by decide +kernel
theorem dX3_tell_56 : decode cX3_tell 56 = .ok (.aload_n 0, 1) := by decide +kernel
theorem dX3_tell_57 : decode cX3_tell 57 = .ok (.getfield 24, 3) := by decide +kernel
theorem dX3_tell_60 : decode cX3_tell 60 = .ok (.ireturn, 1) := by decide +kernel
theorem dX3_tell_61 : decode cX3_tell 61 = .ok (.bipush (-2), 2) := by decide +kernel
theorem dX3_tell_63 : decode cX3_tell 63 = .ok (.ireturn, 1) := by decide +kernel
theorem dX4_init_0 : decode cX4_init 0 = .ok (.aload_n 0, 1) := by decide +kernel
theorem dX4_init_1 : decode cX4_init 1 = .ok (.invokespecial 3, 3) := by decide +kernel
theorem dX4_init_4 : decode cX4_init 4 = .ok (.aload_n 0, 1) := by decide +kernel
theorem dX4_init_5 : decode cX4_init 5 = .ok (.iconst 0, 1) := by decide +kernel
theorem dX4_init_6 : decode cX4_init 6 = .ok (.iload_n 1, 1) := by decide +kernel
theorem dX4_init_7 : decode cX4_init 7 = .ok (.invokestatic 9, 3) := by decide +kernel
theorem dX4_init_10 : decode cX4_init 10 = .ok (.putfield 15, 3) := by decide +kernel
theorem dX4_init_13 : decode cX4_init 13 = .ok (.aload_n 0, 1) := by decide +kernel
theorem dX4_init_14 : decode cX4_init 14 = .ok (.aload_n 0, 1) := by decide +kernel
theorem dX4_init_15 : decode cX4_init 15 = .ok (.getfield 15, 3) := by decide +kernel
theorem dX4_init_18 : decode cX4_init 18 = .ok (.newarray .char, 2) := by decide +kernel
theorem dX4_init_20 : decode cX4_init 20 = .ok (.putfield 21, 3) := by decide +kernel
theorem dX4_init_23 : decode cX4_init 23 = .ok (.aload_n 0, 1) := by decide +kernel
theorem dX4_init_24 : decode cX4_init 24 = .ok (.aload_n 0, 1) := by decide +kernel
theorem dX4_init_25 : decode cX4_init 25 = .ok (.getfield 15, 3) := by decide +kernel
theorem dX4_init_28 : decode cX4_init 28 = .ok (.newarray .int, 2) := by decide +kernel
theorem dX4_init_30 : decode cX4_init 30 = .ok (.putfield 25, 3) := by decide +kernel
theorem dX4_init_33 : decode cX4_init 33 = .ok (.return_, 1) := by decide +kernel
theorem dX4_hasPhase_0 : decode cX4_hasPhase 0 = .ok (.iconst 0, 1) := by decide +kernel
theorem dX4_hasPhase_1 : decode cX4_hasPhase 1 = .ok (.iload_n 1, 1) := by decide +kernel
theorem dX4_hasPhase_2 : decode cX4_hasPhase 2 = .ok (.if_icmp .gt 15, 3) := by decide +kernel
theorem dX4_hasPhase_5 : decode cX4_hasPhase 5 = .ok (.iload_n 1, 1) := by decide +kernel
theorem dX4_hasPhase_6 : decode cX4_hasPhase 6 = .ok (.aload_n 0, 1) := by decide +kernel
theorem dX4_hasPhase_7 : decode cX4_hasPhase 7 = .ok (.getfield 15, 3) := by decide +kernel
theorem dX4_hasPhase_10 : decode cX4_hasPhase 10 = .ok (.if_icmp .ge 7, 3) := by decide +kernel
theorem dX4_hasPhase_13 : decode cX4_hasPhase 13 = .ok (.iconst 1, 1) := by decide +kernel
theorem dX4_hasPhase_14 : decode cX4_hasPhase 14 = .ok (.goto 4, 3) := by decide +kernel
theorem dX4_hasPhase_17 : decode cX4_hasPhase 17 = .ok (.iconst 0, 1) := by decide +kernel
theorem dX4_hasPhase_18 : decode cX4_hasPhase 18 = .ok (.ireturn, 1) := by decide +kernel
theorem dX4_kindOf_0 : decode cX4_kindOf 0 = .ok (.aload_n 0, 1) := by decide +kernel
theorem dX4_kindOf_1 : decode cX4_kindOf 1 = .ok (.iload_n 1, 1) := by decide +kernel
theorem dX4_kindOf_2 : decode cX4_kindOf 2 = .ok (.invokevirtual 29, 3) := by decide +kernel
theorem dX4_kindOf_5 : decode cX4_kindOf 5 = .ok (.ifCond .eq 12, 3) := by decide +kernel
theorem dX4_kindOf_8 : decode cX4_kindOf 8 = .ok (.aload_n 0, 1) := by decide +kernel
theorem dX4_kindOf_9 : decode cX4_kindOf 9 = .ok (.getfield 21, 3) := by decide +kernel
theorem dX4_kindOf_12 : decode cX4_kindOf 12 = .ok (.iload_n 1, 1) := by decide +kernel
theorem dX4_kindOf_13 : decode cX4_kindOf 13 = .ok (.caload, 1) := by decide +kernel
theorem dX4_kindOf_14 : decode cX4_kindOf 14 = .ok (.goto 4, 3) := by decide +kernel
theorem dX4_kindOf_17 : decode cX4_kindOf 17 = .ok (.iconst 0, 1) := by decide +kernel
theorem dX4_kindOf_18 : decode cX4_kindOf 18 = .ok (.ireturn, 1) := by decide +kernel
theorem dX4_numberOf_0 : decode cX4_numberOf 0 = .ok (.aload_n 0, 1) := by decide +kernel
theorem dX4_numberOf_1 : decode cX4_numberOf 1 = .ok (.iload_n 1, 1) := by decide +kernel
theorem dX4_numberOf_2 : decode cX4_numberOf 2 = .ok (.invokevirtual 29, 3) := by decide +kernel
theorem dX4_numberOf_5 : decode cX4_numberOf 5 = .ok (.ifCond .eq 12, 3) := by decide +kernel
theorem dX4_numberOf_8 : decode cX4_numberOf 8 = .ok (.aload_n 0, 1) := by decide +kernel
theorem dX4_numberOf_9 : decode cX4_numberOf 9 = .ok (.getfield 25, 3) := by decide +kernel
theorem dX4_numberOf_12 : decode cX4_numberOf 12 = .ok (.iload_n 1, 1) := by decide +kernel
theorem dX4_numberOf_13 : decode cX4_numberOf 13 = .ok (.iaload, 1) := by decide +kernel
theorem dX4_numberOf_14 : decode cX4_numberOf 14 = .ok (.goto 4, 3) := by decide +kernel
theorem dX4_numberOf_17 : decode cX4_numberOf 17 = .ok (.iconst 0, 1) := by decide +kernel
theorem dX4_numberOf_18 : decode cX4_numberOf 18 = .ok (.ireturn, 1) := by decide +kernel
theorem dX4_putKind_0 : decode cX4_putKind 0 = .ok (.aload_n 0, 1) := by decide +kernel
theorem dX4_putKind_1 : decode cX4_putKind 1 = .ok (.iload_n 1, 1) := by decide +kernel
theorem dX4_putKind_2 : decode cX4_putKind 2 = .ok (.invokevirtual 29, 3) := by decide +kernel
theorem dX4_putKind_5 : decode cX4_putKind 5 = .ok (.ifCond .eq 10, 3) := by decide +kernel
theorem dX4_putKind_8 : decode cX4_putKind 8 = .ok (.aload_n 0, 1) := by decide +kernel
theorem dX4_putKind_9 : decode cX4_putKind 9 = .ok (.getfield 21, 3) := by decide +kernel
theorem dX4_putKind_12 : decode cX4_putKind 12 = .ok (.iload_n 1, 1) := by decide +kernel
theorem dX4_putKind_13 : decode cX4_putKind 13 = .ok (.iload_n 2, 1) := by decide +kernel
theorem dX4_putKind_14 : decode cX4_putKind 14 = .ok (.castore, 1) := by decide +kernel
theorem dX4_putKind_15 : decode cX4_putKind 15 = .ok (.return_, 1) := by decide +kernel
theorem dX4_putDigit_0 : decode cX4_putDigit 0 = .ok (.aload_n 0, 1) := by decide +kernel
theorem dX4_putDigit_1 : decode cX4_putDigit 1 = .ok (.iload_n 1, 1) := by decide +kernel
theorem dX4_putDigit_2 : decode cX4_putDigit 2 = .ok (.invokevirtual 29, 3) := by decide +kernel
theorem dX4_putDigit_5 : decode cX4_putDigit 5 = .ok (.ifCond .eq 20, 3) := by decide +kernel
theorem dX4_putDigit_8 : decode cX4_putDigit 8 = .ok (.aload_n 0, 1) := by decide +kernel
theorem dX4_putDigit_9 : decode cX4_putDigit 9 = .ok (.getfield 25, 3) := by decide +kernel
theorem dX4_putDigit_12 : decode cX4_putDigit 12 = .ok (.iload_n 1, 1) := by decide +kernel
theorem dX4_putDigit_13 : decode cX4_putDigit 13 = .ok (.bipush 10, 2) := by decide +kernel
theorem dX4_putDigit_15 : decode cX4_putDigit 15 = .ok (.aload_n 0, 1) := by decide +kernel
theorem dX4_putDigit_16 : decode cX4_putDigit 16 = .ok (.getfield 25, 3) := by decide +kernel
theorem dX4_putDigit_19 : decode cX4_putDigit 19 = .ok (.iload_n 1, 1) := by decide +kernel
theorem dX4_putDigit_20 : decode cX4_putDigit 20 = .ok (.iaload, 1) := by decide +kernel
theorem dX4_putDigit_21 : decode cX4_putDigit 21 = .ok (.imul, 1) := by decide +kernel
theorem dX4_putDigit_22 : decode cX4_putDigit 22 = .ok (.iload_n 2, 1) := by decide +kernel
theorem dX4_putDigit_23 : decode cX4_putDigit 23 = .ok (.iadd, 1) := by decide +kernel
theorem dX4_putDigit_24 : decode cX4_putDigit 24 = .ok (.iastore, 1) := by decide +kernel
theorem dX4_putDigit_25 : decode cX4_putDigit 25 = .ok (.return_, 1) := by decide +kernel
theorem dX4_hasGoodNumbers_0 : decode cX4_hasGoodNumbers 0 = .ok (.iconst 0, 1) := by decide +kernel
theorem dX4_hasGoodNumbers_1 : decode cX4_hasGoodNumbers 1 = .ok (.istore_n 1, 1) := by decide +kernel
theorem dX4_hasGoodNumbers_2 : decode cX4_hasGoodNumbers 2 = .ok (.iload_n 1, 1) := by decide +kernel
theorem dX4_hasGoodNumbers_3 : decode cX4_hasGoodNumbers 3 = .ok (.aload_n 0, 1) := by decide +kernel
theorem dX4_hasGoodNumbers_4 : decode cX4_hasGoodNumbers 4 = .ok (.getfield 15, 3) := by decide +kernel
theorem dX4_hasGoodNumbers_7 : decode cX4_hasGoodNumbers 7 = .ok (.if_icmp .ge 29, 3) := by decide +kernel
theorem dX4_hasGoodNumbers_10 : decode cX4_hasGoodNumbers 10 = .ok (.aload_n 0, 1) := by decide +kernel
theorem dX4_hasGoodNumbers_11 : decode cX4_hasGoodNumbers 11 = .ok (.getfield 21, 3) := by decide +kernel
theorem dX4_hasGoodNumbers_14 : decode cX4_hasGoodNumbers 14 = .ok (.iload_n 1, 1) := by decide +kernel
theorem dX4_hasGoodNumbers_15 : decode cX4_hasGoodNumbers 15 = .ok (.caload, 1) := by decide +kernel
theorem dX4_hasGoodNumbers_16 : decode cX4_hasGoodNumbers 16 = .ok (.aload_n 0, 1) := by decide +kernel
theorem dX4_hasGoodNumbers_17 : decode cX4_hasGoodNumbers 17 = .ok (.getfield 25, 3) := by decide +kernel
theorem dX4_hasGoodNumbers_20 : decode cX4_hasGoodNumbers 20 = .ok (.iload_n 1, 1) := by decide +kernel
theorem dX4_hasGoodNumbers_21 : decode cX4_hasGoodNumbers 21 = .ok (.iaload, 1) := by decide +kernel
theorem dX4_hasGoodNumbers_22 : decode cX4_hasGoodNumbers 22 = .ok (.invokestatic 33, 3) := by decide +kernel
theorem dX4_hasGoodNumbers_25 : decode cX4_hasGoodNumbers 25 = .ok (.ifCond .ne 5, 3) := by decide +kernel
theorem dX4_hasGoodNumbers_28 : decode cX4_hasGoodNumbers 28 = .ok (.iconst 0, 1) := by decide +kernel
theorem dX4_hasGoodNumbers_29 : decode cX4_hasGoodNumbers 29 = .ok (.ireturn, 1) := by decide +kernel
theorem dX4_hasGoodNumbers_30 : decode cX4_hasGoodNumbers 30 = .ok (.iinc 1 1, 3) := by decide +kernel
theorem dX4_hasGoodNumbers_33 : decode cX4_hasGoodNumbers 33 = .ok (.goto (-31), 3) := by decide +kernel
theorem dX4_hasGoodNumbers_36 : decode cX4_hasGoodNumbers 36 = .ok (.iconst 1, 1) := by decide +kernel
theorem dX4_hasGoodNumbers_37 : decode cX4_hasGoodNumbers 37 = .ok (.ireturn, 1) := by decide +kernel
theorem dX4_isGoodNumber_0 : decode cX4_isGoodNumber 0 = .ok (.iload_n 0, 1) := by decide +kernel
theorem dX4_isGoodNumber_1 : decode cX4_isGoodNumber 1 = .ok (.lookupswitch 76 #[(102, 43), (104, 51), (115, 68), (119, 60)], 43) := by decide +kernel
theorem dX4_isGoodNumber_44 : decode cX4_isGoodNumber 44 = .ok (.iload_n 1, 1) := by decide +kernel
theorem dX4_isGoodNumber_45 : decode cX4_isGoodNumber 45 = .ok (.iconst 1, 1) := by decide +kernel
theorem dX4_isGoodNumber_46 : decode cX4_isGoodNumber 46 = .ok (.bipush 60, 2) := by decide +kernel
theorem dX4_isGoodNumber_48 : decode cX4_isGoodNumber 48 = .ok (.invokestatic 37, 3) := by decide +kernel
theorem dX4_isGoodNumber_51 : decode cX4_isGoodNumber 51 = .ok (.ireturn, 1) := by decide +kernel
theorem dX4_isGoodNumber_52 : decode cX4_isGoodNumber 52 = .ok (.iload_n 1, 1) := by decide +kernel
theorem dX4_isGoodNumber_53 : decode cX4_isGoodNumber 53 = .ok (.bipush 16, 2) := by decide +kernel
theorem dX4_isGoodNumber_55 : decode cX4_isGoodNumber 55 = .ok (.bipush 95, 2) := by decide +kernel
theorem dX4_isGoodNumber_57 : decode cX4_isGoodNumber 57 = .ok (.invokestatic 37, 3) := by decide +kernel
theorem dX4_isGoodNumber_60 : decode cX4_isGoodNumber 60 = .ok (.ireturn, 1) := by decide +kernel
theorem dX4_isGoodNumber_61 : decode cX4_isGoodNumber 61 = .ok (.iload_n 1, 1) := by decide +kernel
theorem dX4_isGoodNumber_62 : decode cX4_isGoodNumber 62 = .ok (.iconst 1, 1) := by decide +kernel
theorem dX4_isGoodNumber_63 : decode cX4_isGoodNumber 63 = .ok (.bipush 99, 2) := by decide +kernel
theorem dX4_isGoodNumber_65 : decode cX4_isGoodNumber 65 = .ok (.invokestatic 37, 3) := by decide +kernel
theorem dX4_isGoodNumber_68 : decode cX4_isGoodNumber 68 = .ok (.ireturn, 1) := by decide +kernel
theorem dX4_isGoodNumber_69 : decode cX4_isGoodNumber 69 = .ok (.iload_n 1, 1) := by decide +kernel
theorem dX4_isGoodNumber_70 : decode cX4_isGoodNumber 70 = .ok (.iconst 1, 1) := by decide +kernel
theorem dX4_isGoodNumber_71 : decode cX4_isGoodNumber 71 = .ok (.bipush 30, 2) := by decide +kernel
theorem dX4_isGoodNumber_73 : decode cX4_isGoodNumber 73 = .ok (.invokestatic 37, 3) := by decide +kernel
theorem dX4_isGoodNumber_76 : decode cX4_isGoodNumber 76 = .ok (.ireturn, 1) := by decide +kernel
theorem dX4_isGoodNumber_77 : decode cX4_isGoodNumber 77 = .ok (.iload_n 1, 1) := by decide +kernel
theorem dX4_isGoodNumber_78 : decode cX4_isGoodNumber 78 = .ok (.ifCond .ne 7, 3) := by decide +kernel
theorem dX4_isGoodNumber_81 : decode cX4_isGoodNumber 81 = .ok (.iconst 1, 1) := by decide +kernel
theorem dX4_isGoodNumber_82 : decode cX4_isGoodNumber 82 = .ok (.goto 4, 3) := by decide +kernel
theorem dX4_isGoodNumber_85 : decode cX4_isGoodNumber 85 = .ok (.iconst 0, 1) := by decide +kernel
theorem dX4_isGoodNumber_86 : decode cX4_isGoodNumber 86 = .ok (.ireturn, 1) := by decide +kernel
theorem dX5_init_0 : decode cX5_init 0 = .ok (.aload_n 0, 1) := by decide +kernel
theorem dX5_init_1 : decode cX5_init 1 = .ok (.invokespecial 3, 3) := by decide +kernel
theorem dX5_init_4 : decode cX5_init 4 = .ok (.aload_n 0, 1) := by decide +kernel
theorem dX5_init_5 : decode cX5_init 5 = .ok (.bipush 60, 2) := by decide +kernel
theorem dX5_init_7 : decode cX5_init 7 = .ok (.newarray .char, 2) := by decide +kernel
theorem dX5_init_9 : decode cX5_init 9 = .ok (.putfield 9, 3) := by decide +kernel
theorem dX5_init_12 : decode cX5_init 12 = .ok (.aload_n 0, 1) := by decide +kernel
theorem dX5_init_13 : decode cX5_init 13 = .ok (.iconst 0, 1) := by decide +kernel
theorem dX5_init_14 : decode cX5_init 14 = .ok (.putfield 15, 3) := by decide +kernel
theorem dX5_init_17 : decode cX5_init 17 = .ok (.return_, 1) := by decide +kernel
theorem dX5_append_0 : decode cX5_append 0 = .ok (.aload_n 0, 1) := by decide +kernel
theorem dX5_append_1 : decode cX5_append 1 = .ok (.getfield 15, 3) := by decide +kernel
theorem dX5_append_4 : decode cX5_append 4 = .ok (.bipush 60, 2) := by decide +kernel
theorem dX5_append_6 : decode cX5_append 6 = .ok (.if_icmp .lt 5, 3) := by decide +kernel
theorem dX5_append_9 : decode cX5_append 9 = .ok (.iconst 0, 1) := by decide +kernel
theorem dX5_append_10 : decode cX5_append 10 = .ok (.ireturn, 1) := by decide +kernel
theorem dX5_append_11 : decode cX5_append 11 = .ok (.aload_n 0, 1) := by decide +kernel
theorem dX5_append_12 : decode cX5_append 12 = .ok (.getfield 9, 3) := by decide +kernel
theorem dX5_append_15 : decode cX5_append 15 = .ok (.aload_n 0, 1) := by decide +kernel
theorem dX5_append_16 : decode cX5_append 16 = .ok (.getfield 15, 3) := by decide +kernel
theorem dX5_append_19 : decode cX5_append 19 = .ok (.iload_n 1, 1) := by decide +kernel
theorem dX5_append_20 : decode cX5_append 20 = .ok (.castore, 1) := by decide +kernel
theorem dX5_append_21 : decode cX5_append 21 = .ok (.aload_n 0, 1) := by decide +kernel
theorem dX5_append_22 : decode cX5_append 22 = .ok (.dup, 1) := by decide +kernel
theorem dX5_append_23 : decode cX5_append 23 = .ok (.getfield 15, 3) := by decide +kernel
theorem dX5_append_26 : decode cX5_append 26 = .ok (.iconst 1, 1) := by decide +kernel
theorem dX5_append_27 : decode cX5_append 27 = .ok (.iadd, 1) := by decide +kernel
theorem dX5_append_28 : decode cX5_append 28 = .ok (.putfield 15, 3) := by decide +kernel
theorem dX5_append_31 : decode cX5_append 31 = .ok (.iconst 1, 1) := by decide +kernel
theorem dX5_append_32 : decode cX5_append 32 = .ok (.ireturn, 1) := by decide +kernel
theorem dX5_firstFault_0 : decode cX5_firstFault 0 = .ok (.iconst 0, 1) := by decide +kernel
theorem dX5_firstFault_1 : decode cX5_firstFault 1 = .ok (.istore_n 1, 1) := by decide +kernel
theorem dX5_firstFault_2 : decode cX5_firstFault 2 = .ok (.iconst 0, 1) := by decide +kernel
theorem dX5_firstFault_3 : decode cX5_firstFault 3 = .ok (.istore_n 2, 1) := by decide +kernel
theorem dX5_firstFault_4 : decode cX5_firstFault 4 = .ok (.iload_n 2, 1) := by decide +kernel
theorem dX5_firstFault_5 : decode cX5_firstFault 5 = .ok (.aload_n 0, 1) := by decide +kernel
theorem dX5_firstFault_6 : decode cX5_firstFault 6 = .ok (.getfield 15, 3) := by decide +kernel
theorem dX5_firstFault_9 : decode cX5_firstFault 9 = .ok (.if_icmp .ge 28, 3) := by decide +kernel
theorem dX5_firstFault_12 : decode cX5_firstFault 12 = .ok (.iload_n 1, 1) := by decide +kernel
theorem dX5_firstFault_13 : decode cX5_firstFault 13 = .ok (.aload_n 0, 1) := by decide +kernel
theorem dX5_firstFault_14 : decode cX5_firstFault 14 = .ok (.getfield 9, 3) := by decide +kernel
theorem dX5_firstFault_17 : decode cX5_firstFault 17 = .ok (.iload_n 2, 1) := by decide +kernel
theorem dX5_firstFault_18 : decode cX5_firstFault 18 = .ok (.caload, 1) := by decide +kernel
theorem dX5_firstFault_19 : decode cX5_firstFault 19 = .ok (.invokestatic 19, 3) := by decide +kernel
theorem dX5_firstFault_22 : decode cX5_firstFault 22 = .ok (.istore_n 1, 1) := by decide +kernel
theorem dX5_firstFault_23 : decode cX5_firstFault 23 = .ok (.iload_n 1, 1) := by decide +kernel
theorem dX5_firstFault_24 : decode cX5_firstFault 24 = .ok (.bipush (-5), 2) := by decide +kernel
theorem dX5_firstFault_26 : decode cX5_firstFault 26 = .ok (.if_icmp .ne 5, 3) := by decide +kernel
theorem dX5_firstFault_29 : decode cX5_firstFault 29 = .ok (.iload_n 2, 1) := by decide +kernel
theorem dX5_firstFault_30 : decode cX5_firstFault 30 = .ok (.ireturn, 1) := by decide +kernel
theorem dX5_firstFault_31 : decode cX5_firstFault 31 = .ok (.iinc 2 1, 3) := by decide +kernel
theorem dX5_firstFault_34 : decode cX5_firstFault 34 = .ok (.goto (-30), 3) := by decide +kernel
theorem dX5_firstFault_37 : decode cX5_firstFault 37 = .ok (.iload_n 1, 1) := by decide +kernel
theorem dX5_firstFault_38 : decode cX5_firstFault 38 = .ok (.ifCond .eq 8, 3) := by decide +kernel
theorem dX5_firstFault_41 : decode cX5_firstFault 41 = .ok (.iload_n 1, 1) := by decide +kernel
theorem dX5_firstFault_42 : decode cX5_firstFault 42 = .ok (.iconst 1, 1) := by decide +kernel
theorem dX5_firstFault_43 : decode cX5_firstFault 43 = .ok (.if_icmp .ne 10, 3) := by decide +kernel
theorem dX5_firstFault_46 : decode cX5_firstFault 46 = .ok (.aload_n 0, 1) := by decide +kernel
theorem dX5_firstFault_47 : decode cX5_firstFault 47 = .ok (.getfield 15, 3) := by decide +kernel
theorem dX5_firstFault_50 : decode cX5_firstFault 50 = .ok (.goto 5, 3) := by decide +kernel
theorem dX5_firstFault_53 : decode cX5_firstFault 53 = .ok (.bipush (-5), 2) := by decide +kernel
theorem dX5_firstFault_55 : decode cX5_firstFault 55 = .ok (.ireturn, 1) := by decide +kernel
theorem dX5_placeBehind_0 : decode cX5_placeBehind 0 = .ok (.iload_n 0, 1) := by decide +kernel
theorem dX5_placeBehind_1 : decode cX5_placeBehind 1 = .ok (.tableswitch 91 0 2 #[27, 49, 69], 27) := by decide +kernel
theorem dX5_placeBehind_28 : decode cX5_placeBehind 28 = .ok (.iload_n 1, 1) := by decide +kernel
theorem dX5_placeBehind_29 : decode cX5_placeBehind 29 = .ok (.bipush 100, 2) := by decide +kernel
theorem dX5_placeBehind_31 : decode cX5_placeBehind 31 = .ok (.if_icmp .ne 5, 3) := by decide +kernel
theorem dX5_placeBehind_34 : decode cX5_placeBehind 34 = .ok (.iconst 3, 1) := by decide +kernel
theorem dX5_placeBehind_35 : decode cX5_placeBehind 35 = .ok (.ireturn, 1) := by decide +kernel
theorem dX5_placeBehind_36 : decode cX5_placeBehind 36 = .ok (.iload_n 1, 1) := by decide +kernel
theorem dX5_placeBehind_37 : decode cX5_placeBehind 37 = .ok (.invokestatic 23, 3) := by decide +kernel
theorem dX5_placeBehind_40 : decode cX5_placeBehind 40 = .ok (.ifCond .eq 7, 3) := by decide +kernel
theorem dX5_placeBehind_43 : decode cX5_placeBehind 43 = .ok (.iconst 1, 1) := by decide +kernel
theorem dX5_placeBehind_44 : decode cX5_placeBehind 44 = .ok (.goto 5, 3) := by decide +kernel
theorem dX5_placeBehind_47 : decode cX5_placeBehind 47 = .ok (.bipush (-5), 2) := by decide +kernel
theorem dX5_placeBehind_49 : decode cX5_placeBehind 49 = .ok (.ireturn, 1) := by decide +kernel
theorem dX5_placeBehind_50 : decode cX5_placeBehind 50 = .ok (.iload_n 1, 1) := by decide +kernel
theorem dX5_placeBehind_51 : decode cX5_placeBehind 51 = .ok (.invokestatic 27, 3) := by decide +kernel
theorem dX5_placeBehind_54 : decode cX5_placeBehind 54 = .ok (.ifCond .eq 13, 3) := by decide +kernel
theorem dX5_placeBehind_57 : decode cX5_placeBehind 57 = .ok (.iload_n 1, 1) := by decide +kernel
theorem dX5_placeBehind_58 : decode cX5_placeBehind 58 = .ok (.bipush 48, 2) := by decide +kernel
theorem dX5_placeBehind_60 : decode cX5_placeBehind 60 = .ok (.if_icmp .eq 7, 3) := by decide +kernel
theorem dX5_placeBehind_63 : decode cX5_placeBehind 63 = .ok (.iconst 2, 1) := by decide +kernel
theorem dX5_placeBehind_64 : decode cX5_placeBehind 64 = .ok (.goto 5, 3) := by decide +kernel
theorem dX5_placeBehind_67 : decode cX5_placeBehind 67 = .ok (.bipush (-5), 2) := by decide +kernel
theorem dX5_placeBehind_69 : decode cX5_placeBehind 69 = .ok (.ireturn, 1) := by decide +kernel
theorem dX5_placeBehind_70 : decode cX5_placeBehind 70 = .ok (.iload_n 1, 1) := by decide +kernel
theorem dX5_placeBehind_71 : decode cX5_placeBehind 71 = .ok (.invokestatic 27, 3) := by decide +kernel
theorem dX5_placeBehind_74 : decode cX5_placeBehind 74 = .ok (.ifCond .eq 5, 3) := by decide +kernel
theorem dX5_placeBehind_77 : decode cX5_placeBehind 77 = .ok (.iconst 3, 1) := by decide +kernel
theorem dX5_placeBehind_78 : decode cX5_placeBehind 78 = .ok (.ireturn, 1) := by decide +kernel
theorem dX5_placeBehind_79 : decode cX5_placeBehind 79 = .ok (.iload_n 1, 1) := by decide +kernel
theorem dX5_placeBehind_80 : decode cX5_placeBehind 80 = .ok (.bipush 59, 2) := by decide +kernel
theorem dX5_placeBehind_82 : decode cX5_placeBehind 82 = .ok (.if_icmp .ne 7, 3) := by decide +kernel
theorem dX5_placeBehind_85 : decode cX5_placeBehind 85 = .ok (.iconst 0, 1) := by decide +kernel
theorem dX5_placeBehind_86 : decode cX5_placeBehind 86 = .ok (.goto 5, 3) := by decide +kernel
theorem dX5_placeBehind_89 : decode cX5_placeBehind 89 = .ok (.bipush (-5), 2) := by decide +kernel
theorem dX5_placeBehind_91 : decode cX5_placeBehind 91 = .ok (.ireturn, 1) := by decide +kernel
theorem dX5_placeBehind_92 : decode cX5_placeBehind 92 = .ok (.iload_n 1, 1) := by decide +kernel
theorem dX5_placeBehind_93 : decode cX5_placeBehind 93 = .ok (.bipush 59, 2) := by decide +kernel
theorem dX5_placeBehind_95 : decode cX5_placeBehind 95 = .ok (.if_icmp .ne 7, 3) := by decide +kernel
theorem dX5_placeBehind_98 : decode cX5_placeBehind 98 = .ok (.iconst 0, 1) := by decide +kernel
theorem dX5_placeBehind_99 : decode cX5_placeBehind 99 = .ok (.goto 5, 3) := by decide +kernel
theorem dX5_placeBehind_102 : decode cX5_placeBehind 102 = .ok (.bipush (-5), 2) := by decide +kernel
theorem dX5_placeBehind_104 : decode cX5_placeBehind 104 = .ok (.ireturn, 1) := by decide +kernel
theorem dX5_isKindWithNumber_0 : decode cX5_isKindWithNumber 0 = .ok (.iload_n 0, 1) := by decide +kernel
theorem dX5_isKindWithNumber_1 : decode cX5_isKindWithNumber 1 = .ok (.bipush 102, 2) := by decide +kernel
theorem dX5_isKindWithNumber_3 : decode cX5_isKindWithNumber 3 = .ok (.if_icmp .eq 21, 3) := by decide +kernel
theorem dX5_isKindWithNumber_6 : decode cX5_isKindWithNumber 6 = .ok (.iload_n 0, 1) := by decide +kernel
theorem dX5_isKindWithNumber_7 : decode cX5_isKindWithNumber 7 = .ok (.bipush 104, 2) := by decide +kernel
theorem dX5_isKindWithNumber_9 : decode cX5_isKindWithNumber 9 = .ok (.if_icmp .eq 15, 3) := by decide +kernel
theorem dX5_isKindWithNumber_12 : decode cX5_isKindWithNumber 12 = .ok (.iload_n 0, 1) := by decide +kernel
theorem dX5_isKindWithNumber_13 : decode cX5_isKindWithNumber 13 = .ok (.bipush 119, 2) := by decide +kernel
theorem dX5_isKindWithNumber_15 : decode cX5_isKindWithNumber 15 = .ok (.if_icmp .eq 9, 3) := by decide +kernel
theorem dX5_isKindWithNumber_18 : decode cX5_isKindWithNumber 18 = .ok (.iload_n 0, 1) := by decide +kernel
theorem dX5_isKindWithNumber_19 : decode cX5_isKindWithNumber 19 = .ok (.bipush 115, 2) := by decide +kernel
theorem dX5_isKindWithNumber_21 : decode cX5_isKindWithNumber 21 = .ok (.if_icmp .ne 7, 3) := by decide +kernel
theorem dX5_isKindWithNumber_24 : decode cX5_isKindWithNumber 24 = .ok (.iconst 1, 1) := by decide +kernel
theorem dX5_isKindWithNumber_25 : decode cX5_isKindWithNumber 25 = .ok (.goto 4, 3) := by decide +kernel
theorem dX5_isKindWithNumber_28 : decode cX5_isKindWithNumber 28 = .ok (.iconst 0, 1) := by decide +kernel
theorem dX5_isKindWithNumber_29 : decode cX5_isKindWithNumber 29 = .ok (.ireturn, 1) := by decide +kernel
theorem dX5_isDigit_0 : decode cX5_isDigit 0 = .ok (.bipush 48, 2) := by decide +kernel
theorem dX5_isDigit_2 : decode cX5_isDigit 2 = .ok (.iload_n 0, 1) := by decide +kernel
theorem dX5_isDigit_3 : decode cX5_isDigit 3 = .ok (.if_icmp .gt 13, 3) := by decide +kernel
theorem dX5_isDigit_6 : decode cX5_isDigit 6 = .ok (.iload_n 0, 1) := by decide +kernel
theorem dX5_isDigit_7 : decode cX5_isDigit 7 = .ok (.bipush 57, 2) := by decide +kernel
theorem dX5_isDigit_9 : decode cX5_isDigit 9 = .ok (.if_icmp .gt 7, 3) := by decide +kernel
theorem dX5_isDigit_12 : decode cX5_isDigit 12 = .ok (.iconst 1, 1) := by decide +kernel
theorem dX5_isDigit_13 : decode cX5_isDigit 13 = .ok (.goto 4, 3) := by decide +kernel
theorem dX5_isDigit_16 : decode cX5_isDigit 16 = .ok (.iconst 0, 1) := by decide +kernel
theorem dX5_isDigit_17 : decode cX5_isDigit 17 = .ok (.ireturn, 1) := by decide +kernel
theorem dX5_toProgram_0 : decode cX5_toProgram 0 = .ok (.new 30, 3) := by decide +kernel
theorem dX5_toProgram_3 : decode cX5_toProgram 3 = .ok (.dup, 1) := by decide +kernel
theorem dX5_toProgram_4 : decode cX5_toProgram 4 = .ok (.aload_n 0, 1) := by decide +kernel
theorem dX5_toProgram_5 : decode cX5_toProgram 5 = .ok (.invokevirtual 32, 3) := by decide +kernel
theorem dX5_toProgram_8 : decode cX5_toProgram 8 = .ok (.iconst 1, 1) := by decide +kernel
theorem dX5_toProgram_9 : decode cX5_toProgram 9 = .ok (.iadd, 1) := by decide +kernel
theorem dX5_toProgram_10 : decode cX5_toProgram 10 = .ok (.invokespecial 36, 3) := by decide +kernel
theorem dX5_toProgram_13 : decode cX5_toProgram 13 = .ok (.astore_n 1, 1) := by decide +kernel
theorem dX5_toProgram_14 : decode cX5_toProgram 14 = .ok (.iconst 0, 1) := by decide +kernel
theorem dX5_toProgram_15 : decode cX5_toProgram 15 = .ok (.istore_n 2, 1) := by decide +kernel
theorem dX5_toProgram_16 : decode cX5_toProgram 16 = .ok (.iconst 0, 1) := by decide +kernel
theorem dX5_toProgram_17 : decode cX5_toProgram 17 = .ok (.istore_n 3, 1) := by decide +kernel
theorem dX5_toProgram_18 : decode cX5_toProgram 18 = .ok (.iload_n 3, 1) := by decide +kernel
theorem dX5_toProgram_19 : decode cX5_toProgram 19 = .ok (.aload_n 0, 1) := by decide +kernel
theorem dX5_toProgram_20 : decode cX5_toProgram 20 = .ok (.getfield 15, 3) := by decide +kernel
theorem dX5_toProgram_23 : decode cX5_toProgram 23 = .ok (.if_icmp .ge 58, 3) := by decide +kernel
theorem dX5_toProgram_26 : decode cX5_toProgram 26 = .ok (.aload_n 0, 1) := by decide +kernel
theorem dX5_toProgram_27 : decode cX5_toProgram 27 = .ok (.getfield 9, 3) := by decide +kernel
theorem dX5_toProgram_30 : decode cX5_toProgram 30 = .ok (.iload_n 3, 1) := by decide +kernel
theorem dX5_toProgram_31 : decode cX5_toProgram 31 = .ok (.caload, 1) := by decide +kernel
theorem dX5_toProgram_32 : decode cX5_toProgram 32 = .ok (.istore 4, 2) := by decide +kernel
theorem dX5_toProgram_34 : decode cX5_toProgram 34 = .ok (.iload 4, 2) := by decide +kernel
theorem dX5_toProgram_36 : decode cX5_toProgram 36 = .ok (.bipush 59, 2) := by decide +kernel
theorem dX5_toProgram_38 : decode cX5_toProgram 38 = .ok (.if_icmp .ne 9, 3) := by decide +kernel
theorem dX5_toProgram_41 : decode cX5_toProgram 41 = .ok (.iinc 2 1, 3) := by decide +kernel
theorem dX5_toProgram_44 : decode cX5_toProgram 44 = .ok (.goto 31, 3) := by decide +kernel
theorem dX5_toProgram_47 : decode cX5_toProgram 47 = .ok (.iload 4, 2) := by decide +kernel
theorem dX5_toProgram_49 : decode cX5_toProgram 49 = .ok (.invokestatic 27, 3) := by decide +kernel
theorem dX5_toProgram_52 : decode cX5_toProgram 52 = .ok (.ifCond .eq 16, 3) := by decide +kernel
theorem dX5_toProgram_55 : decode cX5_toProgram 55 = .ok (.aload_n 1, 1) := by decide +kernel
theorem dX5_toProgram_56 : decode cX5_toProgram 56 = .ok (.iload_n 2, 1) := by decide +kernel
theorem dX5_toProgram_57 : decode cX5_toProgram 57 = .ok (.iload 4, 2) := by decide +kernel
theorem dX5_toProgram_59 : decode cX5_toProgram 59 = .ok (.bipush 48, 2) := by decide +kernel
theorem dX5_toProgram_61 : decode cX5_toProgram 61 = .ok (.isub, 1) := by decide +kernel
theorem dX5_toProgram_62 : decode cX5_toProgram 62 = .ok (.invokevirtual 39, 3) := by decide +kernel
theorem dX5_toProgram_65 : decode cX5_toProgram 65 = .ok (.goto 10, 3) := by decide +kernel
theorem dX5_toProgram_68 : decode cX5_toProgram 68 = .ok (.aload_n 1, 1) := by decide +kernel
theorem dX5_toProgram_69 : decode cX5_toProgram 69 = .ok (.iload_n 2, 1) := by decide +kernel
theorem dX5_toProgram_70 : decode cX5_toProgram 70 = .ok (.iload 4, 2) := by decide +kernel
theorem dX5_toProgram_72 : decode cX5_toProgram 72 = .ok (.invokevirtual 43, 3) := by decide +kernel
theorem dX5_toProgram_75 : decode cX5_toProgram 75 = .ok (.iinc 3 1, 3) := by decide +kernel
theorem dX5_toProgram_78 : decode cX5_toProgram 78 = .ok (.goto (-60), 3) := by decide +kernel
theorem dX5_toProgram_81 : decode cX5_toProgram 81 = .ok (.aload_n 1, 1) := by decide +kernel
theorem dX5_toProgram_82 : decode cX5_toProgram 82 = .ok (.areturn, 1) := by decide +kernel
theorem dX5_separators_0 : decode cX5_separators 0 = .ok (.iconst 0, 1) := by decide +kernel
theorem dX5_separators_1 : decode cX5_separators 1 = .ok (.istore_n 1, 1) := by decide +kernel
theorem dX5_separators_2 : decode cX5_separators 2 = .ok (.iconst 0, 1) := by decide +kernel
theorem dX5_separators_3 : decode cX5_separators 3 = .ok (.istore_n 2, 1) := by decide +kernel
theorem dX5_separators_4 : decode cX5_separators 4 = .ok (.iload_n 2, 1) := by decide +kernel
theorem dX5_separators_5 : decode cX5_separators 5 = .ok (.aload_n 0, 1) := by decide +kernel
theorem dX5_separators_6 : decode cX5_separators 6 = .ok (.getfield 15, 3) := by decide +kernel
theorem dX5_separators_9 : decode cX5_separators 9 = .ok (.if_icmp .ge 28, 3) := by decide +kernel
theorem dX5_separators_12 : decode cX5_separators 12 = .ok (.iload_n 1, 1) := by decide +kernel
theorem dX5_separators_13 : decode cX5_separators 13 = .ok (.aload_n 0, 1) := by decide +kernel
theorem dX5_separators_14 : decode cX5_separators 14 = .ok (.getfield 9, 3) := by decide +kernel
theorem dX5_separators_17 : decode cX5_separators 17 = .ok (.iload_n 2, 1) := by decide +kernel
theorem dX5_separators_18 : decode cX5_separators 18 = .ok (.caload, 1) := by decide +kernel
theorem dX5_separators_19 : decode cX5_separators 19 = .ok (.bipush 59, 2) := by decide +kernel
theorem dX5_separators_21 : decode cX5_separators 21 = .ok (.if_icmp .ne 7, 3) := by decide +kernel
theorem dX5_separators_24 : decode cX5_separators 24 = .ok (.iconst 1, 1) := by decide +kernel
theorem dX5_separators_25 : decode cX5_separators 25 = .ok (.goto 4, 3) := by decide +kernel
theorem dX5_separators_28 : decode cX5_separators 28 = .ok (.iconst 0, 1) := by decide +kernel
theorem dX5_separators_29 : decode cX5_separators 29 = .ok (.iadd, 1) := by decide +kernel
theorem dX5_separators_30 : decode cX5_separators 30 = .ok (.istore_n 1, 1) := by decide +kernel
theorem dX5_separators_31 : decode cX5_separators 31 = .ok (.iinc 2 1, 3) := by decide +kernel
theorem dX5_separators_34 : decode cX5_separators 34 = .ok (.goto (-30), 3) := by decide +kernel
theorem dX5_separators_37 : decode cX5_separators 37 = .ok (.iload_n 1, 1) := by decide +kernel
theorem dX5_separators_38 : decode cX5_separators 38 = .ok (.ireturn, 1) := by decide +kernel
theorem dX6_init_0 : decode cX6_init 0 = .ok (.aload_n 0, 1) := by decide +kernel
theorem dX6_init_1 : decode cX6_init 1 = .ok (.invokespecial 3, 3) := by decide +kernel
theorem dX6_init_4 : decode cX6_init 4 = .ok (.aload_n 0, 1) := by decide +kernel
theorem dX6_init_5 : decode cX6_init 5 = .ok (.iconst 4, 1) := by decide +kernel
theorem dX6_init_6 : decode cX6_init 6 = .ok (.newarray .int, 2) := by decide +kernel
theorem dX6_init_8 : decode cX6_init 8 = .ok (.dup, 1) := by decide +kernel
theorem dX6_init_9 : decode cX6_init 9 = .ok (.iconst 0, 1) := by decide +kernel
theorem dX6_init_10 : decode cX6_init 10 = .ok (.sipush 20000, 3) := by decide +kernel
theorem dX6_init_13 : decode cX6_init 13 = .ok (.iastore, 1) := by decide +kernel
theorem dX6_init_14 : decode cX6_init 14 = .ok (.dup, 1) := by decide +kernel
theorem dX6_init_15 : decode cX6_init 15 = .ok (.iconst 1, 1) := by decide +kernel
theorem dX6_init_16 : decode cX6_init 16 = .ok (.sipush 200, 3) := by decide +kernel
theorem dX6_init_19 : decode cX6_init 19 = .ok (.iastore, 1) := by decide +kernel
theorem dX6_init_20 : decode cX6_init 20 = .ok (.dup, 1) := by decide +kernel
theorem dX6_init_21 : decode cX6_init 21 = .ok (.iconst 2, 1) := by decide +kernel
theorem dX6_init_22 : decode cX6_init 22 = .ok (.sipush 300, 3) := by decide +kernel
theorem dX6_init_25 : decode cX6_init 25 = .ok (.iastore, 1) := by decide +kernel
theorem dX6_init_26 : decode cX6_init 26 = .ok (.dup, 1) := by decide +kernel
theorem dX6_init_27 : decode cX6_init 27 = .ok (.iconst 3, 1) := by decide +kernel
theorem dX6_init_28 : decode cX6_init 28 = .ok (.bipush 40, 2) := by decide +kernel
theorem dX6_init_30 : decode cX6_init 30 = .ok (.iastore, 1) := by decide +kernel
theorem dX6_init_31 : decode cX6_init 31 = .ok (.putfield 9, 3) := by decide +kernel
theorem dX6_init_34 : decode cX6_init 34 = .ok (.aload_n 0, 1) := by decide +kernel
theorem dX6_init_35 : decode cX6_init 35 = .ok (.bipush 8, 2) := by decide +kernel
theorem dX6_init_37 : decode cX6_init 37 = .ok (.anewarray 15, 3) := by decide +kernel
theorem dX6_init_40 : decode cX6_init 40 = .ok (.putfield 17, 3) := by decide +kernel
theorem dX6_init_43 : decode cX6_init 43 = .ok (.aload_n 0, 1) := by decide +kernel
theorem dX6_init_44 : decode cX6_init 44 = .ok (.bipush 10, 2) := by decide +kernel
theorem dX6_init_46 : decode cX6_init 46 = .ok (.anewarray 21, 3) := by decide +kernel
theorem dX6_init_49 : decode cX6_init 49 = .ok (.putfield 23, 3) := by decide +kernel
theorem dX6_init_52 : decode cX6_init 52 = .ok (.aload_n 0, 1) := by decide +kernel
theorem dX6_init_53 : decode cX6_init 53 = .ok (.iconst 0, 1) := by decide +kernel
theorem dX6_init_54 : decode cX6_init 54 = .ok (.putfield 27, 3) := by decide +kernel
theorem dX6_init_57 : decode cX6_init 57 = .ok (.aload_n 0, 1) := by decide +kernel
theorem dX6_init_58 : decode cX6_init 58 = .ok (.iconst 0, 1) := by decide +kernel
theorem dX6_init_59 : decode cX6_init 59 = .ok (.putfield 31, 3) := by decide +kernel
theorem dX6_init_62 : decode cX6_init 62 = .ok (.aload_n 0, 1) := by decide +kernel
theorem dX6_init_63 : decode cX6_init 63 = .ok (.iconst 0, 1) := by decide +kernel
theorem dX6_init_64 : decode cX6_init 64 = .ok (.putfield 34, 3) := by decide +kernel
theorem dX6_init_67 : decode cX6_init 67 = .ok (.aload_n 0, 1) := by decide +kernel
theorem dX6_init_68 : decode cX6_init 68 = .ok (.iconst 0, 1) := by decide +kernel
theorem dX6_init_69 : decode cX6_init 69 = .ok (.putfield 37, 3) := by decide +kernel
theorem dX6_init_72 : decode cX6_init 72 = .ok (.aload_n 0, 1) := by decide +kernel
theorem dX6_init_73 : decode cX6_init 73 = .ok (.iconst 1, 1) := by decide +kernel
theorem dX6_init_74 : decode cX6_init 74 = .ok (.putfield 40, 3) := by decide +kernel
theorem dX6_init_77 : decode cX6_init 77 = .ok (.aload_n 0, 1) := by decide +kernel
theorem dX6_init_78 : decode cX6_init 78 = .ok (.sipush 10000, 3) := by decide +kernel
theorem dX6_init_81 : decode cX6_init 81 = .ok (.putfield 44, 3) := by decide +kernel
theorem dX6_init_84 : decode cX6_init 84 = .ok (.aload_n 0, 1) := by decide +kernel
theorem dX6_init_85 : decode cX6_init 85 = .ok (.iconst 0, 1) := by decide +kernel
theorem dX6_init_86 : decode cX6_init 86 = .ok (.putfield 47, 3) := by decide +kernel
theorem dX6_init_89 : decode cX6_init 89 = .ok (.aload_n 0, 1) := by decide +kernel
theorem dX6_init_90 : decode cX6_init 90 = .ok (.iconst 0, 1) := by decide +kernel
theorem dX6_init_91 : decode cX6_init 91 = .ok (.putfield 50, 3) := by decide +kernel
theorem dX6_init_94 : decode cX6_init 94 = .ok (.new 53, 3) := by decide +kernel
theorem dX6_init_97 : decode cX6_init 97 = .ok (.dup, 1) := by decide +kernel
theorem dX6_init_98 : decode cX6_init 98 = .ok (.iconst 0, 1) := by decide +kernel
theorem dX6_init_99 : decode cX6_init 99 = .ok (.invokespecial 55, 3) := by decide +kernel
theorem dX6_init_102 : decode cX6_init 102 = .ok (.astore_n 1, 1) := by decide +kernel
theorem dX6_init_103 : decode cX6_init 103 = .ok (.iconst 0, 1) := by decide +kernel
theorem dX6_init_104 : decode cX6_init 104 = .ok (.istore_n 2, 1) := by decide +kernel
theorem dX6_init_105 : decode cX6_init 105 = .ok (.iload_n 2, 1) := by decide +kernel
theorem dX6_init_106 : decode cX6_init 106 = .ok (.bipush 8, 2) := by decide +kernel
theorem dX6_init_108 : decode cX6_init 108 = .ok (.if_icmp .ge 23, 3) := by decide +kernel
theorem dX6_init_111 : decode cX6_init 111 = .ok (.aload_n 0, 1) := by decide +kernel
theorem dX6_init_112 : decode cX6_init 112 = .ok (.getfield 17, 3) := by decide +kernel
theorem dX6_init_115 : decode cX6_init 115 = .ok (.iload_n 2, 1) := by decide +kernel
theorem dX6_init_116 : decode cX6_init 116 = .ok (.new 15, 3) := by decide +kernel
theorem dX6_init_119 : decode cX6_init 119 = .ok (.dup, 1) := by decide +kernel
theorem dX6_init_120 : decode cX6_init 120 = .ok (.aload_n 1, 1) := by decide +kernel
theorem dX6_init_121 : decode cX6_init 121 = .ok (.invokespecial 58, 3) := by decide +kernel
theorem dX6_init_124 : decode cX6_init 124 = .ok (.aastore, 1) := by decide +kernel
theorem dX6_init_125 : decode cX6_init 125 = .ok (.iinc 2 1, 3) := by decide +kernel
theorem dX6_init_128 : decode cX6_init 128 = .ok (.goto (-23), 3) := by decide +kernel
theorem dX6_init_131 : decode cX6_init 131 = .ok (.iconst 0, 1) := by decide +kernel
theorem dX6_init_132 : decode cX6_init 132 = .ok (.istore_n 2, 1) := by decide +kernel
theorem dX6_init_133 : decode cX6_init 133 = .ok (.iload_n 2, 1) := by decide +kernel
theorem dX6_init_134 : decode cX6_init 134 = .ok (.bipush 10, 2) := by decide +kernel
theorem dX6_init_136 : decode cX6_init 136 = .ok (.if_icmp .ge 22, 3) := by decide +kernel
theorem dX6_init_139 : decode cX6_init 139 = .ok (.aload_n 0, 1) := by decide +kernel
theorem dX6_init_140 : decode cX6_init 140 = .ok (.getfield 23, 3) := by decide +kernel
theorem dX6_init_143 : decode cX6_init 143 = .ok (.iload_n 2, 1) := by decide +kernel
theorem dX6_init_144 : decode cX6_init 144 = .ok (.new 21, 3) := by decide +kernel
theorem dX6_init_147 : decode cX6_init 147 = .ok (.dup, 1) := by decide +kernel
theorem dX6_init_148 : decode cX6_init 148 = .ok (.invokespecial 61, 3) := by decide +kernel
theorem dX6_init_151 : decode cX6_init 151 = .ok (.aastore, 1) := by decide +kernel
theorem dX6_init_152 : decode cX6_init 152 = .ok (.iinc 2 1, 3) := by decide +kernel
theorem dX6_init_155 : decode cX6_init 155 = .ok (.goto (-22), 3) := by decide +kernel
theorem dX6_init_158 : decode cX6_init 158 = .ok (.return_, 1) := by decide +kernel
theorem dX6_copyFrom_0 : decode cX6_copyFrom 0 = .ok (.iconst 0, 1) := by decide +kernel
theorem dX6_copyFrom_1 : decode cX6_copyFrom 1 = .ok (.istore_n 2, 1) := by decide +kernel
theorem dX6_copyFrom_2 : decode cX6_copyFrom 2 = .ok (.iload_n 2, 1) := by decide +kernel
theorem dX6_copyFrom_3 : decode cX6_copyFrom 3 = .ok (.iconst 4, 1) := by decide +kernel
theorem dX6_copyFrom_4 : decode cX6_copyFrom 4 = .ok (.if_icmp .ge 21, 3) := by decide +kernel
theorem dX6_copyFrom_7 : decode cX6_copyFrom 7 = .ok (.aload_n 0, 1) := by decide +kernel
theorem dX6_copyFrom_8 : decode cX6_copyFrom 8 = .ok (.getfield 9, 3) := by decide +kernel
theorem dX6_copyFrom_11 : decode cX6_copyFrom 11 = .ok (.iload_n 2, 1) := by decide +kernel
theorem dX6_copyFrom_12 : decode cX6_copyFrom 12 = .ok (.aload_n 1, 1) := by decide +kernel
theorem dX6_copyFrom_13 : decode cX6_copyFrom 13 = .ok (.getfield 9, 3) := by decide +kernel
theorem dX6_copyFrom_16 : decode cX6_copyFrom 16 = .ok (.iload_n 2, 1) := by decide +kernel
theorem dX6_copyFrom_17 : decode cX6_copyFrom 17 = .ok (.iaload, 1) := by decide +kernel
theorem dX6_copyFrom_18 : decode cX6_copyFrom 18 = .ok (.iastore, 1) := by decide +kernel
theorem dX6_copyFrom_19 : decode cX6_copyFrom 19 = .ok (.iinc 2 1, 3) := by decide +kernel
theorem dX6_copyFrom_22 : decode cX6_copyFrom 22 = .ok (.goto (-20), 3) := by decide +kernel
theorem dX6_copyFrom_25 : decode cX6_copyFrom 25 = .ok (.iconst 0, 1) := by decide +kernel
theorem dX6_copyFrom_26 : decode cX6_copyFrom 26 = .ok (.istore_n 2, 1) := by decide +kernel
theorem dX6_copyFrom_27 : decode cX6_copyFrom 27 = .ok (.iload_n 2, 1) := by decide +kernel
theorem dX6_copyFrom_28 : decode cX6_copyFrom 28 = .ok (.bipush 8, 2) := by decide +kernel
theorem dX6_copyFrom_30 : decode cX6_copyFrom 30 = .ok (.if_icmp .ge 24, 3) := by decide +kernel
theorem dX6_copyFrom_33 : decode cX6_copyFrom 33 = .ok (.aload_n 0, 1) := by decide +kernel
theorem dX6_copyFrom_34 : decode cX6_copyFrom 34 = .ok (.getfield 17, 3) := by decide +kernel
theorem dX6_copyFrom_37 : decode cX6_copyFrom 37 = .ok (.iload_n 2, 1) := by decide +kernel
theorem dX6_copyFrom_38 : decode cX6_copyFrom 38 = .ok (.aaload, 1) := by decide +kernel
theorem dX6_copyFrom_39 : decode cX6_copyFrom 39 = .ok (.aload_n 1, 1) := by decide +kernel
theorem dX6_copyFrom_40 : decode cX6_copyFrom 40 = .ok (.getfield 17, 3) := by decide +kernel
theorem dX6_copyFrom_43 : decode cX6_copyFrom 43 = .ok (.iload_n 2, 1) := by decide +kernel
theorem dX6_copyFrom_44 : decode cX6_copyFrom 44 = .ok (.aaload, 1) := by decide +kernel
theorem dX6_copyFrom_45 : decode cX6_copyFrom 45 = .ok (.invokevirtual 62, 3) := by decide +kernel
theorem dX6_copyFrom_48 : decode cX6_copyFrom 48 = .ok (.iinc 2 1, 3) := by decide +kernel
theorem dX6_copyFrom_51 : decode cX6_copyFrom 51 = .ok (.goto (-24), 3) := by decide +kernel
theorem dX6_copyFrom_54 : decode cX6_copyFrom 54 = .ok (.iconst 0, 1) := by decide +kernel
theorem dX6_copyFrom_55 : decode cX6_copyFrom 55 = .ok (.istore_n 2, 1) := by decide +kernel
theorem dX6_copyFrom_56 : decode cX6_copyFrom 56 = .ok (.iload_n 2, 1) := by decide +kernel
theorem dX6_copyFrom_57 : decode cX6_copyFrom 57 = .ok (.bipush 10, 2) := by decide +kernel
theorem dX6_copyFrom_59 : decode cX6_copyFrom 59 = .ok (.if_icmp .ge 24, 3) := by decide +kernel
theorem dX6_copyFrom_62 : decode cX6_copyFrom 62 = .ok (.aload_n 0, 1) := by decide +kernel
theorem dX6_copyFrom_63 : decode cX6_copyFrom 63 = .ok (.getfield 23, 3) := by decide +kernel
theorem dX6_copyFrom_66 : decode cX6_copyFrom 66 = .ok (.iload_n 2, 1) := by decide +kernel
theorem dX6_copyFrom_67 : decode cX6_copyFrom 67 = .ok (.aaload, 1) := by decide +kernel
theorem dX6_copyFrom_68 : decode cX6_copyFrom 68 = .ok (.aload_n 1, 1) := by decide +kernel
theorem dX6_copyFrom_69 : decode cX6_copyFrom 69 = .ok (.getfield 23, 3) := by decide +kernel
theorem dX6_copyFrom_72 : decode cX6_copyFrom 72 = .ok (.iload_n 2, 1) := by decide +kernel
theorem dX6_copyFrom_73 : decode cX6_copyFrom 73 = .ok (.aaload, 1) := by decide +kernel
theorem dX6_copyFrom_74 : decode cX6_copyFrom 74 = .ok (.invokevirtual 66, 3) := by decide +kernel
theorem dX6_copyFrom_77 : decode cX6_copyFrom 77 = .ok (.iinc 2 1, 3) := by decide +kernel
theorem dX6_copyFrom_80 : decode cX6_copyFrom 80 = .ok (.goto (-24), 3) := by decide +kernel
theorem dX6_copyFrom_83 : decode cX6_copyFrom 83 = .ok (.aload_n 0, 1) := by decide +kernel
theorem dX6_copyFrom_84 : decode cX6_copyFrom 84 = .ok (.aload_n 1, 1) := by decide +kernel
theorem dX6_copyFrom_85 : decode cX6_copyFrom 85 = .ok (.getfield 27, 3) := by decide +kernel
theorem dX6_copyFrom_88 : decode cX6_copyFrom 88 = .ok (.putfield 27, 3) := by decide +kernel
theorem dX6_copyFrom_91 : decode cX6_copyFrom 91 = .ok (.aload_n 0, 1) := by decide +kernel
theorem dX6_copyFrom_92 : decode cX6_copyFrom 92 = .ok (.aload_n 1, 1) := by decide +kernel
theorem dX6_copyFrom_93 : decode cX6_copyFrom 93 = .ok (.getfield 31, 3) := by decide +kernel
theorem dX6_copyFrom_96 : decode cX6_copyFrom 96 = .ok (.putfield 31, 3) := by decide +kernel
theorem dX6_copyFrom_99 : decode cX6_copyFrom 99 = .ok (.aload_n 0, 1) := by decide +kernel
theorem dX6_copyFrom_100 : decode cX6_copyFrom 100 = .ok (.aload_n 1, 1) := by decide +kernel
theorem dX6_copyFrom_101 : decode cX6_copyFrom 101 = .ok (.getfield 34, 3) := by decide +kernel
theorem dX6_copyFrom_104 : decode cX6_copyFrom 104 = .ok (.putfield 34, 3) := by decide +kernel
theorem dX6_copyFrom_107 : decode cX6_copyFrom 107 = .ok (.aload_n 0, 1) := by decide +kernel
theorem dX6_copyFrom_108 : decode cX6_copyFrom 108 = .ok (.aload_n 1, 1) := by decide +kernel
theorem dX6_copyFrom_109 : decode cX6_copyFrom 109 = .ok (.getfield 37, 3) := by decide +kernel
theorem dX6_copyFrom_112 : decode cX6_copyFrom 112 = .ok (.putfield 37, 3) := by decide +kernel
theorem dX6_copyFrom_115 : decode cX6_copyFrom 115 = .ok (.aload_n 0, 1) := by decide +kernel
theorem dX6_copyFrom_116 : decode cX6_copyFrom 116 = .ok (.aload_n 1, 1) := by decide +kernel
theorem dX6_copyFrom_117 : decode cX6_copyFrom 117 = .ok (.getfield 40, 3) := by decide +kernel
theorem dX6_copyFrom_120 : decode cX6_copyFrom 120 = .ok (.putfield 40, 3) := by decide +kernel
theorem dX6_copyFrom_123 : decode cX6_copyFrom 123 = .ok (.aload_n 0, 1) := by decide +kernel
theorem dX6_copyFrom_124 : decode cX6_copyFrom 124 = .ok (.aload_n 1, 1) := by decide +kernel
theorem dX6_copyFrom_125 : decode cX6_copyFrom 125 = .ok (.getfield 44, 3) := by decide +kernel
theorem dX6_copyFrom_128 : decode cX6_copyFrom 128 = .ok (.putfield 44, 3) := by decide +kernel
theorem dX6_copyFrom_131 : decode cX6_copyFrom 131 = .ok (.aload_n 0, 1) := by decide +kernel
theorem dX6_copyFrom_132 : decode cX6_copyFrom 132 = .ok (.aload_n 1, 1) := by decide +kernel
theorem dX6_copyFrom_133 : decode cX6_copyFrom 133 = .ok (.getfield 47, 3) := by decide +kernel
theorem dX6_copyFrom_136 : decode cX6_copyFrom 136 = .ok (.putfield 47, 3) := by decide +kernel
theorem dX6_copyFrom_139 : decode cX6_copyFrom 139 = .ok (.aload_n 0, 1) := by decide +kernel
theorem dX6_copyFrom_140 : decode cX6_copyFrom 140 = .ok (.aload_n 1, 1) := by decide +kernel
theorem dX6_copyFrom_141 : decode cX6_copyFrom 141 = .ok (.getfield 50, 3) := by decide +kernel
theorem dX6_copyFrom_144 : decode cX6_copyFrom 144 = .ok (.putfield 50, 3) := by decide +kernel
theorem dX6_copyFrom_147 : decode cX6_copyFrom 147 = .ok (.return_, 1) := by decide +kernel
theorem dX6_hasHouse_0 : decode cX6_hasHouse 0 = .ok (.iload_n 1, 1) := by decide +kernel
theorem dX6_hasHouse_1 : decode cX6_hasHouse 1 = .ok (.iconst 0, 1) := by decide +kernel
theorem dX6_hasHouse_2 : decode cX6_hasHouse 2 = .ok (.aload_n 0, 1) := by decide +kernel
theorem dX6_hasHouse_3 : decode cX6_hasHouse 3 = .ok (.getfield 27, 3) := by decide +kernel
theorem dX6_hasHouse_6 : decode cX6_hasHouse 6 = .ok (.iconst 1, 1) := by decide +kernel
theorem dX6_hasHouse_7 : decode cX6_hasHouse 7 = .ok (.isub, 1) := by decide +kernel
theorem dX6_hasHouse_8 : decode cX6_hasHouse 8 = .ok (.invokestatic 69, 3) := by decide +kernel
theorem dX6_hasHouse_11 : decode cX6_hasHouse 11 = .ok (.ireturn, 1) := by decide +kernel
theorem dX6_washerOf_0 : decode cX6_washerOf 0 = .ok (.aload_n 0, 1) := by decide +kernel
theorem dX6_washerOf_1 : decode cX6_washerOf 1 = .ok (.getfield 17, 3) := by decide +kernel
theorem dX6_washerOf_4 : decode cX6_washerOf 4 = .ok (.iload_n 1, 1) := by decide +kernel
theorem dX6_washerOf_5 : decode cX6_washerOf 5 = .ok (.aaload, 1) := by decide +kernel
theorem dX6_washerOf_6 : decode cX6_washerOf 6 = .ok (.getfield 73, 3) := by decide +kernel
theorem dX6_washerOf_9 : decode cX6_washerOf 9 = .ok (.areturn, 1) := by decide +kernel
theorem dX6_settle_0 : decode cX6_settle 0 = .ok (.aload_n 0, 1) := by decide +kernel
theorem dX6_settle_1 : decode cX6_settle 1 = .ok (.getfield 17, 3) := by decide +kernel
theorem dX6_settle_4 : decode cX6_settle 4 = .ok (.aload_n 0, 1) := by decide +kernel
theorem dX6_settle_5 : decode cX6_settle 5 = .ok (.getfield 27, 3) := by decide +kernel
theorem dX6_settle_8 : decode cX6_settle 8 = .ok (.aaload, 1) := by decide +kernel
theorem dX6_settle_9 : decode cX6_settle 9 = .ok (.astore 4, 2) := by decide +kernel
theorem dX6_settle_11 : decode cX6_settle 11 = .ok (.aload 4, 2) := by decide +kernel
theorem dX6_settle_13 : decode cX6_settle 13 = .ok (.iload_n 1, 1) := by decide +kernel
theorem dX6_settle_14 : decode cX6_settle 14 = .ok (.putfield 77, 3) := by decide +kernel
theorem dX6_settle_17 : decode cX6_settle 17 = .ok (.aload 4, 2) := by decide +kernel
theorem dX6_settle_19 : decode cX6_settle 19 = .ok (.iload_n 2, 1) := by decide +kernel
theorem dX6_settle_20 : decode cX6_settle 20 = .ok (.putfield 80, 3) := by decide +kernel
theorem dX6_settle_23 : decode cX6_settle 23 = .ok (.aload 4, 2) := by decide +kernel
theorem dX6_settle_25 : decode cX6_settle 25 = .ok (.iload_n 3, 1) := by decide +kernel
theorem dX6_settle_26 : decode cX6_settle 26 = .ok (.putfield 83, 3) := by decide +kernel
theorem dX6_settle_29 : decode cX6_settle 29 = .ok (.aload_n 0, 1) := by decide +kernel
theorem dX6_settle_30 : decode cX6_settle 30 = .ok (.dup, 1) := by decide +kernel
theorem dX6_settle_31 : decode cX6_settle 31 = .ok (.getfield 27, 3) := by decide +kernel
theorem dX6_settle_34 : decode cX6_settle 34 = .ok (.iconst 1, 1) := by decide +kernel
theorem dX6_settle_35 : decode cX6_settle 35 = .ok (.iadd, 1) := by decide +kernel
theorem dX6_settle_36 : decode cX6_settle 36 = .ok (.putfield 27, 3) := by decide +kernel
theorem dX6_settle_39 : decode cX6_settle 39 = .ok (.aload_n 0, 1) := by decide +kernel
theorem dX6_settle_40 : decode cX6_settle 40 = .ok (.getfield 27, 3) := by decide +kernel
theorem dX6_settle_43 : decode cX6_settle 43 = .ok (.iconst 1, 1) := by decide +kernel
theorem dX6_settle_44 : decode cX6_settle 44 = .ok (.isub, 1) := by decide +kernel
theorem dX6_settle_45 : decode cX6_settle 45 = .ok (.ireturn, 1) := by decide +kernel
theorem dX6_switchPower_0 : decode cX6_switchPower 0 = .ok (.aload_n 0, 1) := by decide +kernel
theorem dX6_switchPower_1 : decode cX6_switchPower 1 = .ok (.iload_n 1, 1) := by decide +kernel
theorem dX6_switchPower_2 : decode cX6_switchPower 2 = .ok (.putfield 40, 3) := by decide +kernel
theorem dX6_switchPower_5 : decode cX6_switchPower 5 = .ok (.iconst 0, 1) := by decide +kernel
theorem dX6_switchPower_6 : decode cX6_switchPower 6 = .ok (.istore_n 2, 1) := by decide +kernel
theorem dX6_switchPower_7 : decode cX6_switchPower 7 = .ok (.iload_n 1, 1) := by decide +kernel
theorem dX6_switchPower_8 : decode cX6_switchPower 8 = .ok (.ifCond .eq 25, 3) := by decide +kernel
theorem dX6_switchPower_11 : decode cX6_switchPower 11 = .ok (.iload_n 2, 1) := by decide +kernel
theorem dX6_switchPower_12 : decode cX6_switchPower 12 = .ok (.aload_n 0, 1) := by decide +kernel
theorem dX6_switchPower_13 : decode cX6_switchPower 13 = .ok (.getfield 27, 3) := by decide +kernel
theorem dX6_switchPower_16 : decode cX6_switchPower 16 = .ok (.if_icmp .ge 17, 3) := by decide +kernel
theorem dX6_switchPower_19 : decode cX6_switchPower 19 = .ok (.aload_n 0, 1) := by decide +kernel
theorem dX6_switchPower_20 : decode cX6_switchPower 20 = .ok (.iload_n 2, 1) := by decide +kernel
theorem dX6_switchPower_21 : decode cX6_switchPower 21 = .ok (.invokevirtual 86, 3) := by decide +kernel
theorem dX6_switchPower_24 : decode cX6_switchPower 24 = .ok (.invokevirtual 90, 3) := by decide +kernel
theorem dX6_switchPower_27 : decode cX6_switchPower 27 = .ok (.iinc 2 1, 3) := by decide +kernel
theorem dX6_switchPower_30 : decode cX6_switchPower 30 = .ok (.goto (-23), 3) := by decide +kernel
theorem dX6_switchPower_33 : decode cX6_switchPower 33 = .ok (.return_, 1) := by decide +kernel
theorem dX6_hasUnlockedAbove_0 : decode cX6_hasUnlockedAbove 0 = .ok (.iconst 0, 1) := by decide +kernel
theorem dX6_hasUnlockedAbove_1 : decode cX6_hasUnlockedAbove 1 = .ok (.istore_n 2, 1) := by decide +kernel
theorem dX6_hasUnlockedAbove_2 : decode cX6_hasUnlockedAbove 2 = .ok (.iload_n 2, 1) := by decide +kernel
theorem dX6_hasUnlockedAbove_3 : decode cX6_hasUnlockedAbove 3 = .ok (.aload_n 0, 1) := by decide +kernel
theorem dX6_hasUnlockedAbove_4 : decode cX6_hasUnlockedAbove 4 = .ok (.getfield 27, 3) := by decide +kernel
theorem dX6_hasUnlockedAbove_7 : decode cX6_hasUnlockedAbove 7 = .ok (.if_icmp .ge 35, 3) := by decide +kernel
theorem dX6_hasUnlockedAbove_10 : decode cX6_hasUnlockedAbove 10 = .ok (.aload_n 0, 1) := by decide +kernel
theorem dX6_hasUnlockedAbove_11 : decode cX6_hasUnlockedAbove 11 = .ok (.iload_n 2, 1) := by decide +kernel
theorem dX6_hasUnlockedAbove_12 : decode cX6_hasUnlockedAbove 12 = .ok (.invokevirtual 86, 3) := by decide +kernel
theorem dX6_hasUnlockedAbove_15 : decode cX6_hasUnlockedAbove 15 = .ok (.getfield 95, 3) := by decide +kernel
theorem dX6_hasUnlockedAbove_18 : decode cX6_hasUnlockedAbove 18 = .ok (.iconst 2, 1) := by decide +kernel
theorem dX6_hasUnlockedAbove_19 : decode cX6_hasUnlockedAbove 19 = .ok (.if_icmp .eq 17, 3) := by decide +kernel
theorem dX6_hasUnlockedAbove_22 : decode cX6_hasUnlockedAbove 22 = .ok (.aload_n 0, 1) := by decide +kernel
theorem dX6_hasUnlockedAbove_23 : decode cX6_hasUnlockedAbove 23 = .ok (.iload_n 2, 1) := by decide +kernel
theorem dX6_hasUnlockedAbove_24 : decode cX6_hasUnlockedAbove 24 = .ok (.invokevirtual 86, 3) := by decide +kernel
theorem dX6_hasUnlockedAbove_27 : decode cX6_hasUnlockedAbove 27 = .ok (.invokevirtual 98, 3) := by decide +kernel
theorem dX6_hasUnlockedAbove_30 : decode cX6_hasUnlockedAbove 30 = .ok (.iload_n 1, 1) := by decide +kernel
theorem dX6_hasUnlockedAbove_31 : decode cX6_hasUnlockedAbove 31 = .ok (.if_icmp .le 5, 3) := by decide +kernel
theorem dX6_hasUnlockedAbove_34 : decode cX6_hasUnlockedAbove 34 = .ok (.iconst 1, 1) := by decide +kernel
theorem dX6_hasUnlockedAbove_35 : decode cX6_hasUnlockedAbove 35 = .ok (.ireturn, 1) := by decide +kernel
theorem dX6_hasUnlockedAbove_36 : decode cX6_hasUnlockedAbove 36 = .ok (.iinc 2 1, 3) := by decide +kernel
theorem dX6_hasUnlockedAbove_39 : decode cX6_hasUnlockedAbove 39 = .ok (.goto (-37), 3) := by decide +kernel
theorem dX6_hasUnlockedAbove_42 : decode cX6_hasUnlockedAbove 42 = .ok (.iconst 0, 1) := by decide +kernel
theorem dX6_hasUnlockedAbove_43 : decode cX6_hasUnlockedAbove 43 = .ok (.ireturn, 1) := by decide +kernel
theorem dX6_lentOf_0 : decode cX6_lentOf 0 = .ok (.iconst 0, 1) := by decide +kernel
theorem dX6_lentOf_1 : decode cX6_lentOf 1 = .ok (.istore_n 2, 1) := by decide +kernel
theorem dX6_lentOf_2 : decode cX6_lentOf 2 = .ok (.iconst 0, 1) := by decide +kernel
theorem dX6_lentOf_3 : decode cX6_lentOf 3 = .ok (.istore_n 3, 1) := by decide +kernel
theorem dX6_lentOf_4 : decode cX6_lentOf 4 = .ok (.iload_n 3, 1) := by decide +kernel
theorem dX6_lentOf_5 : decode cX6_lentOf 5 = .ok (.aload_n 0, 1) := by decide +kernel
theorem dX6_lentOf_6 : decode cX6_lentOf 6 = .ok (.getfield 31, 3) := by decide +kernel
theorem dX6_lentOf_9 : decode cX6_lentOf 9 = .ok (.if_icmp .ge 38, 3) := by decide +kernel
theorem dX6_lentOf_12 : decode cX6_lentOf 12 = .ok (.iload_n 2, 1) := by decide +kernel
theorem dX6_lentOf_13 : decode cX6_lentOf 13 = .ok (.aload_n 0, 1) := by decide +kernel
theorem dX6_lentOf_14 : decode cX6_lentOf 14 = .ok (.getfield 23, 3) := by decide +kernel
theorem dX6_lentOf_17 : decode cX6_lentOf 17 = .ok (.iload_n 3, 1) := by decide +kernel
theorem dX6_lentOf_18 : decode cX6_lentOf 18 = .ok (.aaload, 1) := by decide +kernel
theorem dX6_lentOf_19 : decode cX6_lentOf 19 = .ok (.getfield 102, 3) := by decide +kernel
theorem dX6_lentOf_22 : decode cX6_lentOf 22 = .ok (.iload_n 1, 1) := by decide +kernel
theorem dX6_lentOf_23 : decode cX6_lentOf 23 = .ok (.if_icmp .ne 15, 3) := by decide +kernel
theorem dX6_lentOf_26 : decode cX6_lentOf 26 = .ok (.aload_n 0, 1) := by decide +kernel
theorem dX6_lentOf_27 : decode cX6_lentOf 27 = .ok (.getfield 23, 3) := by decide +kernel
theorem dX6_lentOf_30 : decode cX6_lentOf 30 = .ok (.iload_n 3, 1) := by decide +kernel
theorem dX6_lentOf_31 : decode cX6_lentOf 31 = .ok (.aaload, 1) := by decide +kernel
theorem dX6_lentOf_32 : decode cX6_lentOf 32 = .ok (.getfield 105, 3) := by decide +kernel
theorem dX6_lentOf_35 : decode cX6_lentOf 35 = .ok (.goto 4, 3) := by decide +kernel
theorem dX6_lentOf_38 : decode cX6_lentOf 38 = .ok (.iconst 0, 1) := by decide +kernel
theorem dX6_lentOf_39 : decode cX6_lentOf 39 = .ok (.iadd, 1) := by decide +kernel
theorem dX6_lentOf_40 : decode cX6_lentOf 40 = .ok (.istore_n 2, 1) := by decide +kernel
theorem dX6_lentOf_41 : decode cX6_lentOf 41 = .ok (.iinc 3 1, 3) := by decide +kernel
theorem dX6_lentOf_44 : decode cX6_lentOf 44 = .ok (.goto (-40), 3) := by decide +kernel
theorem dX6_lentOf_47 : decode cX6_lentOf 47 = .ok (.iload_n 2, 1) := by decide +kernel
theorem dX6_lentOf_48 : decode cX6_lentOf 48 = .ok (.ireturn, 1) := by decide +kernel
theorem dX6_unlentOf_0 : decode cX6_unlentOf 0 = .ok (.aload_n 0, 1) := by decide +kernel
theorem dX6_unlentOf_1 : decode cX6_unlentOf 1 = .ok (.getfield 17, 3) := by decide +kernel
theorem dX6_unlentOf_4 : decode cX6_unlentOf 4 = .ok (.iload_n 1, 1) := by decide +kernel
theorem dX6_unlentOf_5 : decode cX6_unlentOf 5 = .ok (.aaload, 1) := by decide +kernel
theorem dX6_unlentOf_6 : decode cX6_unlentOf 6 = .ok (.getfield 77, 3) := by decide +kernel
theorem dX6_unlentOf_9 : decode cX6_unlentOf 9 = .ok (.aload_n 0, 1) := by decide +kernel
theorem dX6_unlentOf_10 : decode cX6_unlentOf 10 = .ok (.iload_n 1, 1) := by decide +kernel
theorem dX6_unlentOf_11 : decode cX6_unlentOf 11 = .ok (.invokevirtual 108, 3) := by decide +kernel
theorem dX6_unlentOf_14 : decode cX6_unlentOf 14 = .ok (.isub, 1) := by decide +kernel
theorem dX6_unlentOf_15 : decode cX6_unlentOf 15 = .ok (.ireturn, 1) := by decide +kernel
theorem dX6_sharesOf_0 : decode cX6_sharesOf 0 = .ok (.aload_n 0, 1) := by decide +kernel
theorem dX6_sharesOf_1 : decode cX6_sharesOf 1 = .ok (.iload_n 1, 1) := by decide +kernel
theorem dX6_sharesOf_2 : decode cX6_sharesOf 2 = .ok (.invokevirtual 112, 3) := by decide +kernel
theorem dX6_sharesOf_5 : decode cX6_sharesOf 5 = .ok (.istore_n 2, 1) := by decide +kernel
theorem dX6_sharesOf_6 : decode cX6_sharesOf 6 = .ok (.iconst 0, 1) := by decide +kernel
theorem dX6_sharesOf_7 : decode cX6_sharesOf 7 = .ok (.istore_n 3, 1) := by decide +kernel
theorem dX6_sharesOf_8 : decode cX6_sharesOf 8 = .ok (.iload_n 3, 1) := by decide +kernel
theorem dX6_sharesOf_9 : decode cX6_sharesOf 9 = .ok (.aload_n 0, 1) := by decide +kernel
theorem dX6_sharesOf_10 : decode cX6_sharesOf 10 = .ok (.getfield 31, 3) := by decide +kernel
theorem dX6_sharesOf_13 : decode cX6_sharesOf 13 = .ok (.if_icmp .ge 38, 3) := by decide +kernel
theorem dX6_sharesOf_16 : decode cX6_sharesOf 16 = .ok (.iload_n 2, 1) := by decide +kernel
theorem dX6_sharesOf_17 : decode cX6_sharesOf 17 = .ok (.aload_n 0, 1) := by decide +kernel
theorem dX6_sharesOf_18 : decode cX6_sharesOf 18 = .ok (.getfield 23, 3) := by decide +kernel
theorem dX6_sharesOf_21 : decode cX6_sharesOf 21 = .ok (.iload_n 3, 1) := by decide +kernel
theorem dX6_sharesOf_22 : decode cX6_sharesOf 22 = .ok (.aaload, 1) := by decide +kernel
theorem dX6_sharesOf_23 : decode cX6_sharesOf 23 = .ok (.getfield 115, 3) := by decide +kernel
theorem dX6_sharesOf_26 : decode cX6_sharesOf 26 = .ok (.iload_n 1, 1) := by decide +kernel
theorem dX6_sharesOf_27 : decode cX6_sharesOf 27 = .ok (.if_icmp .ne 15, 3) := by decide +kernel
theorem dX6_sharesOf_30 : decode cX6_sharesOf 30 = .ok (.aload_n 0, 1) := by decide +kernel
theorem dX6_sharesOf_31 : decode cX6_sharesOf 31 = .ok (.getfield 23, 3) := by decide +kernel
theorem dX6_sharesOf_34 : decode cX6_sharesOf 34 = .ok (.iload_n 3, 1) := by decide +kernel
theorem dX6_sharesOf_35 : decode cX6_sharesOf 35 = .ok (.aaload, 1) := by decide +kernel
theorem dX6_sharesOf_36 : decode cX6_sharesOf 36 = .ok (.getfield 105, 3) := by decide +kernel
theorem dX6_sharesOf_39 : decode cX6_sharesOf 39 = .ok (.goto 4, 3) := by decide +kernel
theorem dX6_sharesOf_42 : decode cX6_sharesOf 42 = .ok (.iconst 0, 1) := by decide +kernel
theorem dX6_sharesOf_43 : decode cX6_sharesOf 43 = .ok (.iadd, 1) := by decide +kernel
theorem dX6_sharesOf_44 : decode cX6_sharesOf 44 = .ok (.istore_n 2, 1) := by decide +kernel
theorem dX6_sharesOf_45 : decode cX6_sharesOf 45 = .ok (.iinc 3 1, 3) := by decide +kernel
theorem dX6_sharesOf_48 : decode cX6_sharesOf 48 = .ok (.goto (-40), 3) := by decide +kernel
theorem dX6_sharesOf_51 : decode cX6_sharesOf 51 = .ok (.iload_n 2, 1) := by decide +kernel
theorem dX6_sharesOf_52 : decode cX6_sharesOf 52 = .ok (.ireturn, 1) := by decide +kernel
theorem dX6_askOf_0 : decode cX6_askOf 0 = .ok (.iload_n 2, 1) := by decide +kernel
theorem dX6_askOf_1 : decode cX6_askOf 1 = .ok (.aload_n 0, 1) := by decide +kernel
theorem dX6_askOf_2 : decode cX6_askOf 2 = .ok (.getfield 17, 3) := by decide +kernel
theorem dX6_askOf_5 : decode cX6_askOf 5 = .ok (.iload_n 1, 1) := by decide +kernel
theorem dX6_askOf_6 : decode cX6_askOf 6 = .ok (.aaload, 1) := by decide +kernel
theorem dX6_askOf_7 : decode cX6_askOf 7 = .ok (.getfield 80, 3) := by decide +kernel
theorem dX6_askOf_10 : decode cX6_askOf 10 = .ok (.imul, 1) := by decide +kernel
theorem dX6_askOf_11 : decode cX6_askOf 11 = .ok (.istore_n 3, 1) := by decide +kernel
theorem dX6_askOf_12 : decode cX6_askOf 12 = .ok (.aload_n 0, 1) := by decide +kernel
theorem dX6_askOf_13 : decode cX6_askOf 13 = .ok (.iload_n 1, 1) := by decide +kernel
theorem dX6_askOf_14 : decode cX6_askOf 14 = .ok (.invokevirtual 86, 3) := by decide +kernel
theorem dX6_askOf_17 : decode cX6_askOf 17 = .ok (.getfield 118, 3) := by decide +kernel
theorem dX6_askOf_20 : decode cX6_askOf 20 = .ok (.iconst 1, 1) := by decide +kernel
theorem dX6_askOf_21 : decode cX6_askOf 21 = .ok (.if_icmp .ne 9, 3) := by decide +kernel
theorem dX6_askOf_24 : decode cX6_askOf 24 = .ok (.iconst 2, 1) := by decide +kernel
theorem dX6_askOf_25 : decode cX6_askOf 25 = .ok (.iload_n 3, 1) := by decide +kernel
theorem dX6_askOf_26 : decode cX6_askOf 26 = .ok (.imul, 1) := by decide +kernel
theorem dX6_askOf_27 : decode cX6_askOf 27 = .ok (.goto 4, 3) := by decide +kernel
theorem dX6_askOf_30 : decode cX6_askOf 30 = .ok (.iload_n 3, 1) := by decide +kernel
theorem dX6_askOf_31 : decode cX6_askOf 31 = .ok (.ireturn, 1) := by decide +kernel
theorem dX6_refuse_0 : decode cX6_refuse 0 = .ok (.aload_n 0, 1) := by decide +kernel
theorem dX6_refuse_1 : decode cX6_refuse 1 = .ok (.getfield 17, 3) := by decide +kernel
theorem dX6_refuse_4 : decode cX6_refuse 4 = .ok (.iload_n 1, 1) := by decide +kernel
theorem dX6_refuse_5 : decode cX6_refuse 5 = .ok (.aaload, 1) := by decide +kernel
theorem dX6_refuse_6 : decode cX6_refuse 6 = .ok (.dup, 1) := by decide +kernel
theorem dX6_refuse_7 : decode cX6_refuse 7 = .ok (.getfield 121, 3) := by decide +kernel
theorem dX6_refuse_10 : decode cX6_refuse 10 = .ok (.iconst 1, 1) := by decide +kernel
theorem dX6_refuse_11 : decode cX6_refuse 11 = .ok (.iadd, 1) := by decide +kernel
theorem dX6_refuse_12 : decode cX6_refuse 12 = .ok (.putfield 121, 3) := by decide +kernel
theorem dX6_refuse_15 : decode cX6_refuse 15 = .ok (.aload_n 0, 1) := by decide +kernel
theorem dX6_refuse_16 : decode cX6_refuse 16 = .ok (.getfield 17, 3) := by decide +kernel
theorem dX6_refuse_19 : decode cX6_refuse 19 = .ok (.iload_n 2, 1) := by decide +kernel
theorem dX6_refuse_20 : decode cX6_refuse 20 = .ok (.aaload, 1) := by decide +kernel
theorem dX6_refuse_21 : decode cX6_refuse 21 = .ok (.iload_n 3, 1) := by decide +kernel
theorem dX6_refuse_22 : decode cX6_refuse 22 = .ok (.ifCond .eq 7, 3) := by decide +kernel
theorem dX6_refuse_25 : decode cX6_refuse 25 = .ok (.iconst (-1), 1) := by decide +kernel
theorem dX6_refuse_26 : decode cX6_refuse 26 = .ok (.goto 4, 3) := by decide +kernel
theorem dX6_refuse_29 : decode cX6_refuse 29 = .ok (.iconst 1, 1) := by decide +kernel
theorem dX6_refuse_30 : decode cX6_refuse 30 = .ok (.invokevirtual 124, 3) := by decide +kernel
theorem dX6_refuse_33 : decode cX6_refuse 33 = .ok (.return_, 1) := by decide +kernel
theorem dX6_pay_0 : decode cX6_pay 0 = .ok (.aload_n 0, 1) := by decide +kernel
theorem dX6_pay_1 : decode cX6_pay 1 = .ok (.getfield 17, 3) := by decide +kernel
theorem dX6_pay_4 : decode cX6_pay 4 = .ok (.iload_n 1, 1) := by decide +kernel
theorem dX6_pay_5 : decode cX6_pay 5 = .ok (.aaload, 1) := by decide +kernel
theorem dX6_pay_6 : decode cX6_pay 6 = .ok (.dup, 1) := by decide +kernel
theorem dX6_pay_7 : decode cX6_pay 7 = .ok (.getfield 83, 3) := by decide +kernel
theorem dX6_pay_10 : decode cX6_pay 10 = .ok (.iload_n 3, 1) := by decide +kernel
theorem dX6_pay_11 : decode cX6_pay 11 = .ok (.isub, 1) := by decide +kernel
theorem dX6_pay_12 : decode cX6_pay 12 = .ok (.putfield 83, 3) := by decide +kernel
theorem dX6_pay_15 : decode cX6_pay 15 = .ok (.aload_n 0, 1) := by decide +kernel
theorem dX6_pay_16 : decode cX6_pay 16 = .ok (.getfield 17, 3) := by decide +kernel
theorem dX6_pay_19 : decode cX6_pay 19 = .ok (.iload_n 1, 1) := by decide +kernel
theorem dX6_pay_20 : decode cX6_pay 20 = .ok (.aaload, 1) := by decide +kernel
theorem dX6_pay_21 : decode cX6_pay 21 = .ok (.dup, 1) := by decide +kernel
theorem dX6_pay_22 : decode cX6_pay 22 = .ok (.getfield 127, 3) := by decide +kernel
theorem dX6_pay_25 : decode cX6_pay 25 = .ok (.iload_n 3, 1) := by decide +kernel
theorem dX6_pay_26 : decode cX6_pay 26 = .ok (.iadd, 1) := by decide +kernel
theorem dX6_pay_27 : decode cX6_pay 27 = .ok (.putfield 127, 3) := by decide +kernel
theorem dX6_pay_30 : decode cX6_pay 30 = .ok (.aload_n 0, 1) := by decide +kernel
theorem dX6_pay_31 : decode cX6_pay 31 = .ok (.getfield 17, 3) := by decide +kernel
theorem dX6_pay_34 : decode cX6_pay 34 = .ok (.iload_n 1, 1) := by decide +kernel
theorem dX6_pay_35 : decode cX6_pay 35 = .ok (.aaload, 1) := by decide +kernel
theorem dX6_pay_36 : decode cX6_pay 36 = .ok (.dup, 1) := by decide +kernel
theorem dX6_pay_37 : decode cX6_pay 37 = .ok (.getfield 130, 3) := by decide +kernel
theorem dX6_pay_40 : decode cX6_pay 40 = .ok (.iconst 1, 1) := by decide +kernel
theorem dX6_pay_41 : decode cX6_pay 41 = .ok (.iadd, 1) := by decide +kernel
theorem dX6_pay_42 : decode cX6_pay 42 = .ok (.putfield 130, 3) := by decide +kernel
theorem dX6_pay_45 : decode cX6_pay 45 = .ok (.aload_n 0, 1) := by decide +kernel
theorem dX6_pay_46 : decode cX6_pay 46 = .ok (.getfield 17, 3) := by decide +kernel
theorem dX6_pay_49 : decode cX6_pay 49 = .ok (.iload_n 2, 1) := by decide +kernel
theorem dX6_pay_50 : decode cX6_pay 50 = .ok (.aaload, 1) := by decide +kernel
theorem dX6_pay_51 : decode cX6_pay 51 = .ok (.dup, 1) := by decide +kernel
theorem dX6_pay_52 : decode cX6_pay 52 = .ok (.getfield 83, 3) := by decide +kernel
theorem dX6_pay_55 : decode cX6_pay 55 = .ok (.iload_n 3, 1) := by decide +kernel
theorem dX6_pay_56 : decode cX6_pay 56 = .ok (.iadd, 1) := by decide +kernel
theorem dX6_pay_57 : decode cX6_pay 57 = .ok (.putfield 83, 3) := by decide +kernel
theorem dX6_pay_60 : decode cX6_pay 60 = .ok (.aload_n 0, 1) := by decide +kernel
theorem dX6_pay_61 : decode cX6_pay 61 = .ok (.getfield 17, 3) := by decide +kernel
theorem dX6_pay_64 : decode cX6_pay 64 = .ok (.iload_n 2, 1) := by decide +kernel
theorem dX6_pay_65 : decode cX6_pay 65 = .ok (.aaload, 1) := by decide +kernel
theorem dX6_pay_66 : decode cX6_pay 66 = .ok (.dup, 1) := by decide +kernel
theorem dX6_pay_67 : decode cX6_pay 67 = .ok (.getfield 133, 3) := by decide +kernel
theorem dX6_pay_70 : decode cX6_pay 70 = .ok (.iload_n 3, 1) := by decide +kernel
theorem dX6_pay_71 : decode cX6_pay 71 = .ok (.iadd, 1) := by decide +kernel
theorem dX6_pay_72 : decode cX6_pay 72 = .ok (.putfield 133, 3) := by decide +kernel
theorem dX6_pay_75 : decode cX6_pay 75 = .ok (.aload_n 0, 1) := by decide +kernel
theorem dX6_pay_76 : decode cX6_pay 76 = .ok (.getfield 17, 3) := by decide +kernel
theorem dX6_pay_79 : decode cX6_pay 79 = .ok (.iload_n 2, 1) := by decide +kernel
theorem dX6_pay_80 : decode cX6_pay 80 = .ok (.aaload, 1) := by decide +kernel
theorem dX6_pay_81 : decode cX6_pay 81 = .ok (.iconst 1, 1) := by decide +kernel
theorem dX6_pay_82 : decode cX6_pay 82 = .ok (.invokevirtual 124, 3) := by decide +kernel
theorem dX6_pay_85 : decode cX6_pay 85 = .ok (.return_, 1) := by decide +kernel
theorem dX6_lend_0 : decode cX6_lend 0 = .ok (.aload_n 0, 1) := by decide +kernel
theorem dX6_lend_1 : decode cX6_lend 1 = .ok (.getfield 23, 3) := by decide +kernel
theorem dX6_lend_4 : decode cX6_lend 4 = .ok (.aload_n 0, 1) := by decide +kernel
theorem dX6_lend_5 : decode cX6_lend 5 = .ok (.getfield 31, 3) := by decide +kernel
theorem dX6_lend_8 : decode cX6_lend 8 = .ok (.aaload, 1) := by decide +kernel
theorem dX6_lend_9 : decode cX6_lend 9 = .ok (.astore 6, 2) := by decide +kernel
theorem dX6_lend_11 : decode cX6_lend 11 = .ok (.aload 6, 2) := by decide +kernel
theorem dX6_lend_13 : decode cX6_lend 13 = .ok (.iload_n 2, 1) := by decide +kernel
theorem dX6_lend_14 : decode cX6_lend 14 = .ok (.putfield 102, 3) := by decide +kernel
theorem dX6_lend_17 : decode cX6_lend 17 = .ok (.aload 6, 2) := by decide +kernel
theorem dX6_lend_19 : decode cX6_lend 19 = .ok (.iload_n 1, 1) := by decide +kernel
theorem dX6_lend_20 : decode cX6_lend 20 = .ok (.putfield 115, 3) := by decide +kernel
theorem dX6_lend_23 : decode cX6_lend 23 = .ok (.aload 6, 2) := by decide +kernel
theorem dX6_lend_25 : decode cX6_lend 25 = .ok (.iload_n 3, 1) := by decide +kernel
theorem dX6_lend_26 : decode cX6_lend 26 = .ok (.putfield 105, 3) := by decide +kernel
theorem dX6_lend_29 : decode cX6_lend 29 = .ok (.aload 6, 2) := by decide +kernel
theorem dX6_lend_31 : decode cX6_lend 31 = .ok (.iload 4, 2) := by decide +kernel
theorem dX6_lend_33 : decode cX6_lend 33 = .ok (.putfield 136, 3) := by decide +kernel
theorem dX6_lend_36 : decode cX6_lend 36 = .ok (.aload 6, 2) := by decide +kernel
theorem dX6_lend_38 : decode cX6_lend 38 = .ok (.iload 5, 2) := by decide +kernel
theorem dX6_lend_40 : decode cX6_lend 40 = .ok (.putfield 139, 3) := by decide +kernel
theorem dX6_lend_43 : decode cX6_lend 43 = .ok (.aload_n 0, 1) := by decide +kernel
theorem dX6_lend_44 : decode cX6_lend 44 = .ok (.dup, 1) := by decide +kernel
theorem dX6_lend_45 : decode cX6_lend 45 = .ok (.getfield 31, 3) := by decide +kernel
theorem dX6_lend_48 : decode cX6_lend 48 = .ok (.iconst 1, 1) := by decide +kernel
theorem dX6_lend_49 : decode cX6_lend 49 = .ok (.iadd, 1) := by decide +kernel
theorem dX6_lend_50 : decode cX6_lend 50 = .ok (.putfield 31, 3) := by decide +kernel
theorem dX6_lend_53 : decode cX6_lend 53 = .ok (.return_, 1) := by decide +kernel
theorem dX6_wantedHeat_0 : decode cX6_wantedHeat 0 = .ok (.iconst 0, 1) := by decide +kernel
theorem dX6_wantedHeat_1 : decode cX6_wantedHeat 1 = .ok (.istore_n 1, 1) := by decide +kernel
theorem dX6_wantedHeat_2 : decode cX6_wantedHeat 2 = .ok (.iconst 0, 1) := by decide +kernel
theorem dX6_wantedHeat_3 : decode cX6_wantedHeat 3 = .ok (.istore_n 2, 1) := by decide +kernel
theorem dX6_wantedHeat_4 : decode cX6_wantedHeat 4 = .ok (.iload_n 2, 1) := by decide +kernel
theorem dX6_wantedHeat_5 : decode cX6_wantedHeat 5 = .ok (.aload_n 0, 1) := by decide +kernel
theorem dX6_wantedHeat_6 : decode cX6_wantedHeat 6 = .ok (.getfield 27, 3) := by decide +kernel
theorem dX6_wantedHeat_9 : decode cX6_wantedHeat 9 = .ok (.if_icmp .ge 20, 3) := by decide +kernel
theorem dX6_wantedHeat_12 : decode cX6_wantedHeat 12 = .ok (.iload_n 1, 1) := by decide +kernel
theorem dX6_wantedHeat_13 : decode cX6_wantedHeat 13 = .ok (.aload_n 0, 1) := by decide +kernel
theorem dX6_wantedHeat_14 : decode cX6_wantedHeat 14 = .ok (.iload_n 2, 1) := by decide +kernel
theorem dX6_wantedHeat_15 : decode cX6_wantedHeat 15 = .ok (.invokevirtual 86, 3) := by decide +kernel
theorem dX6_wantedHeat_18 : decode cX6_wantedHeat 18 = .ok (.invokevirtual 140, 3) := by decide +kernel
theorem dX6_wantedHeat_21 : decode cX6_wantedHeat 21 = .ok (.iadd, 1) := by decide +kernel
theorem dX6_wantedHeat_22 : decode cX6_wantedHeat 22 = .ok (.istore_n 1, 1) := by decide +kernel
theorem dX6_wantedHeat_23 : decode cX6_wantedHeat 23 = .ok (.iinc 2 1, 3) := by decide +kernel
theorem dX6_wantedHeat_26 : decode cX6_wantedHeat 26 = .ok (.goto (-22), 3) := by decide +kernel
theorem dX6_wantedHeat_29 : decode cX6_wantedHeat 29 = .ok (.iload_n 1, 1) := by decide +kernel
theorem dX6_wantedHeat_30 : decode cX6_wantedHeat 30 = .ok (.ireturn, 1) := by decide +kernel
theorem dX6_divideHeat_0 : decode cX6_divideHeat 0 = .ok (.iconst 0, 1) := by decide +kernel
theorem dX6_divideHeat_1 : decode cX6_divideHeat 1 = .ok (.istore_n 2, 1) := by decide +kernel
theorem dX6_divideHeat_2 : decode cX6_divideHeat 2 = .ok (.iload_n 2, 1) := by decide +kernel
theorem dX6_divideHeat_3 : decode cX6_divideHeat 3 = .ok (.bipush 8, 2) := by decide +kernel
theorem dX6_divideHeat_5 : decode cX6_divideHeat 5 = .ok (.if_icmp .ge 59, 3) := by decide +kernel
theorem dX6_divideHeat_8 : decode cX6_divideHeat 8 = .ok (.aload_n 1, 1) := by decide +kernel
theorem dX6_divideHeat_9 : decode cX6_divideHeat 9 = .ok (.getfield 143, 3) := by decide +kernel
theorem dX6_divideHeat_12 : decode cX6_divideHeat 12 = .ok (.iload_n 2, 1) := by decide +kernel
theorem dX6_divideHeat_13 : decode cX6_divideHeat 13 = .ok (.iload_n 2, 1) := by decide +kernel
theorem dX6_divideHeat_14 : decode cX6_divideHeat 14 = .ok (.aload_n 0, 1) := by decide +kernel
theorem dX6_divideHeat_15 : decode cX6_divideHeat 15 = .ok (.getfield 27, 3) := by decide +kernel
theorem dX6_divideHeat_18 : decode cX6_divideHeat 18 = .ok (.if_icmp .ge 14, 3) := by decide +kernel
theorem dX6_divideHeat_21 : decode cX6_divideHeat 21 = .ok (.aload_n 0, 1) := by decide +kernel
theorem dX6_divideHeat_22 : decode cX6_divideHeat 22 = .ok (.iload_n 2, 1) := by decide +kernel
theorem dX6_divideHeat_23 : decode cX6_divideHeat 23 = .ok (.invokevirtual 86, 3) := by decide +kernel
theorem dX6_divideHeat_26 : decode cX6_divideHeat 26 = .ok (.invokevirtual 140, 3) := by decide +kernel
theorem dX6_divideHeat_29 : decode cX6_divideHeat 29 = .ok (.goto 4, 3) := by decide +kernel
theorem dX6_divideHeat_32 : decode cX6_divideHeat 32 = .ok (.iconst 0, 1) := by decide +kernel
theorem dX6_divideHeat_33 : decode cX6_divideHeat 33 = .ok (.iastore, 1) := by decide +kernel
theorem dX6_divideHeat_34 : decode cX6_divideHeat 34 = .ok (.aload_n 1, 1) := by decide +kernel
theorem dX6_divideHeat_35 : decode cX6_divideHeat 35 = .ok (.getfield 148, 3) := by decide +kernel
theorem dX6_divideHeat_38 : decode cX6_divideHeat 38 = .ok (.iload_n 2, 1) := by decide +kernel
theorem dX6_divideHeat_39 : decode cX6_divideHeat 39 = .ok (.aload_n 1, 1) := by decide +kernel
theorem dX6_divideHeat_40 : decode cX6_divideHeat 40 = .ok (.getfield 143, 3) := by decide +kernel
theorem dX6_divideHeat_43 : decode cX6_divideHeat 43 = .ok (.iload_n 2, 1) := by decide +kernel
theorem dX6_divideHeat_44 : decode cX6_divideHeat 44 = .ok (.iaload, 1) := by decide +kernel
theorem dX6_divideHeat_45 : decode cX6_divideHeat 45 = .ok (.ifCond .le 11, 3) := by decide +kernel
theorem dX6_divideHeat_48 : decode cX6_divideHeat 48 = .ok (.aload_n 0, 1) := by decide +kernel
theorem dX6_divideHeat_49 : decode cX6_divideHeat 49 = .ok (.iload_n 2, 1) := by decide +kernel
theorem dX6_divideHeat_50 : decode cX6_divideHeat 50 = .ok (.invokevirtual 150, 3) := by decide +kernel
theorem dX6_divideHeat_53 : decode cX6_divideHeat 53 = .ok (.goto 4, 3) := by decide +kernel
theorem dX6_divideHeat_56 : decode cX6_divideHeat 56 = .ok (.iconst 0, 1) := by decide +kernel
theorem dX6_divideHeat_57 : decode cX6_divideHeat 57 = .ok (.iastore, 1) := by decide +kernel
theorem dX6_divideHeat_58 : decode cX6_divideHeat 58 = .ok (.iinc 2 1, 3) := by decide +kernel
theorem dX6_divideHeat_61 : decode cX6_divideHeat 61 = .ok (.goto (-59), 3) := by decide +kernel
theorem dX6_divideHeat_64 : decode cX6_divideHeat 64 = .ok (.aload_n 1, 1) := by decide +kernel
theorem dX6_divideHeat_65 : decode cX6_divideHeat 65 = .ok (.aload_n 0, 1) := by decide +kernel
theorem dX6_divideHeat_66 : decode cX6_divideHeat 66 = .ok (.getfield 9, 3) := by decide +kernel
theorem dX6_divideHeat_69 : decode cX6_divideHeat 69 = .ok (.iconst 2, 1) := by decide +kernel
theorem dX6_divideHeat_70 : decode cX6_divideHeat 70 = .ok (.iaload, 1) := by decide +kernel
theorem dX6_divideHeat_71 : decode cX6_divideHeat 71 = .ok (.aload_n 0, 1) := by decide +kernel
theorem dX6_divideHeat_72 : decode cX6_divideHeat 72 = .ok (.invokevirtual 153, 3) := by decide +kernel
theorem dX6_divideHeat_75 : decode cX6_divideHeat 75 = .ok (.invokestatic 156, 3) := by decide +kernel
theorem dX6_divideHeat_78 : decode cX6_divideHeat 78 = .ok (.invokevirtual 162, 3) := by decide +kernel
theorem dX6_divideHeat_81 : decode cX6_divideHeat 81 = .ok (.return_, 1) := by decide +kernel
theorem dX6_storeWithInput_0 : decode cX6_storeWithInput 0 = .ok (.aload_n 0, 1) := by decide +kernel
theorem dX6_storeWithInput_1 : decode cX6_storeWithInput 1 = .ok (.getfield 9, 3) := by decide +kernel
theorem dX6_storeWithInput_4 : decode cX6_storeWithInput 4 = .ok (.iconst 0, 1) := by decide +kernel
theorem dX6_storeWithInput_5 : decode cX6_storeWithInput 5 = .ok (.iaload, 1) := by decide +kernel
theorem dX6_storeWithInput_6 : decode cX6_storeWithInput 6 = .ok (.aload_n 0, 1) := by decide +kernel
theorem dX6_storeWithInput_7 : decode cX6_storeWithInput 7 = .ok (.getfield 44, 3) := by decide +kernel
theorem dX6_storeWithInput_10 : decode cX6_storeWithInput 10 = .ok (.aload_n 0, 1) := by decide +kernel
theorem dX6_storeWithInput_11 : decode cX6_storeWithInput 11 = .ok (.getfield 9, 3) := by decide +kernel
theorem dX6_storeWithInput_14 : decode cX6_storeWithInput 14 = .ok (.iconst 1, 1) := by decide +kernel
theorem dX6_storeWithInput_15 : decode cX6_storeWithInput 15 = .ok (.iaload, 1) := by decide +kernel
theorem dX6_storeWithInput_16 : decode cX6_storeWithInput 16 = .ok (.iadd, 1) := by decide +kernel
theorem dX6_storeWithInput_17 : decode cX6_storeWithInput 17 = .ok (.invokestatic 156, 3) := by decide +kernel
theorem dX6_storeWithInput_20 : decode cX6_storeWithInput 20 = .ok (.ireturn, 1) := by decide +kernel
theorem dX6_passMinute_0 : decode cX6_passMinute 0 = .ok (.iconst 0, 1) := by decide +kernel
theorem dX6_passMinute_1 : decode cX6_passMinute 1 = .ok (.istore_n 2, 1) := by decide +kernel
theorem dX6_passMinute_2 : decode cX6_passMinute 2 = .ok (.aload_n 0, 1) := by decide +kernel
theorem dX6_passMinute_3 : decode cX6_passMinute 3 = .ok (.getfield 40, 3) := by decide +kernel
theorem dX6_passMinute_6 : decode cX6_passMinute 6 = .ok (.ifCond .eq 17, 3) := by decide +kernel
theorem dX6_passMinute_9 : decode cX6_passMinute 9 = .ok (.aload_n 0, 1) := by decide +kernel
theorem dX6_passMinute_10 : decode cX6_passMinute 10 = .ok (.aload_n 1, 1) := by decide +kernel
theorem dX6_passMinute_11 : decode cX6_passMinute 11 = .ok (.invokevirtual 165, 3) := by decide +kernel
theorem dX6_passMinute_14 : decode cX6_passMinute 14 = .ok (.istore_n 2, 1) := by decide +kernel
theorem dX6_passMinute_15 : decode cX6_passMinute 15 = .ok (.aload_n 0, 1) := by decide +kernel
theorem dX6_passMinute_16 : decode cX6_passMinute 16 = .ok (.aload_n 1, 1) := by decide +kernel
theorem dX6_passMinute_17 : decode cX6_passMinute 17 = .ok (.invokevirtual 169, 3) := by decide +kernel
theorem dX6_passMinute_20 : decode cX6_passMinute 20 = .ok (.goto 13, 3) := by decide +kernel
theorem dX6_passMinute_23 : decode cX6_passMinute 23 = .ok (.aload_n 0, 1) := by decide +kernel
theorem dX6_passMinute_24 : decode cX6_passMinute 24 = .ok (.dup, 1) := by decide +kernel
theorem dX6_passMinute_25 : decode cX6_passMinute 25 = .ok (.getfield 37, 3) := by decide +kernel
theorem dX6_passMinute_28 : decode cX6_passMinute 28 = .ok (.iconst 1, 1) := by decide +kernel
theorem dX6_passMinute_29 : decode cX6_passMinute 29 = .ok (.iadd, 1) := by decide +kernel
theorem dX6_passMinute_30 : decode cX6_passMinute 30 = .ok (.putfield 37, 3) := by decide +kernel
theorem dX6_passMinute_33 : decode cX6_passMinute 33 = .ok (.iconst 0, 1) := by decide +kernel
theorem dX6_passMinute_34 : decode cX6_passMinute 34 = .ok (.istore_n 3, 1) := by decide +kernel
theorem dX6_passMinute_35 : decode cX6_passMinute 35 = .ok (.iload_n 3, 1) := by decide +kernel
theorem dX6_passMinute_36 : decode cX6_passMinute 36 = .ok (.aload_n 0, 1) := by decide +kernel
theorem dX6_passMinute_37 : decode cX6_passMinute 37 = .ok (.getfield 27, 3) := by decide +kernel
theorem dX6_passMinute_40 : decode cX6_passMinute 40 = .ok (.if_icmp .ge 38, 3) := by decide +kernel
theorem dX6_passMinute_43 : decode cX6_passMinute 43 = .ok (.aload_n 0, 1) := by decide +kernel
theorem dX6_passMinute_44 : decode cX6_passMinute 44 = .ok (.iload_n 3, 1) := by decide +kernel
theorem dX6_passMinute_45 : decode cX6_passMinute 45 = .ok (.invokevirtual 86, 3) := by decide +kernel
theorem dX6_passMinute_48 : decode cX6_passMinute 48 = .ok (.invokevirtual 173, 3) := by decide +kernel
theorem dX6_passMinute_51 : decode cX6_passMinute 51 = .ok (.aload_n 0, 1) := by decide +kernel
theorem dX6_passMinute_52 : decode cX6_passMinute 52 = .ok (.getfield 40, 3) := by decide +kernel
theorem dX6_passMinute_55 : decode cX6_passMinute 55 = .ok (.ifCond .eq 17, 3) := by decide +kernel
theorem dX6_passMinute_58 : decode cX6_passMinute 58 = .ok (.aload_n 0, 1) := by decide +kernel
theorem dX6_passMinute_59 : decode cX6_passMinute 59 = .ok (.iload_n 3, 1) := by decide +kernel
theorem dX6_passMinute_60 : decode cX6_passMinute 60 = .ok (.invokevirtual 86, 3) := by decide +kernel
theorem dX6_passMinute_63 : decode cX6_passMinute 63 = .ok (.aload_n 0, 1) := by decide +kernel
theorem dX6_passMinute_64 : decode cX6_passMinute 64 = .ok (.getfield 9, 3) := by decide +kernel
theorem dX6_passMinute_67 : decode cX6_passMinute 67 = .ok (.iconst 3, 1) := by decide +kernel
theorem dX6_passMinute_68 : decode cX6_passMinute 68 = .ok (.iaload, 1) := by decide +kernel
theorem dX6_passMinute_69 : decode cX6_passMinute 69 = .ok (.invokevirtual 176, 3) := by decide +kernel
theorem dX6_passMinute_72 : decode cX6_passMinute 72 = .ok (.iinc 3 1, 3) := by decide +kernel
theorem dX6_passMinute_75 : decode cX6_passMinute 75 = .ok (.goto (-40), 3) := by decide +kernel
theorem dX6_passMinute_78 : decode cX6_passMinute 78 = .ok (.aload_n 0, 1) := by decide +kernel
theorem dX6_passMinute_79 : decode cX6_passMinute 79 = .ok (.invokevirtual 179, 3) := by decide +kernel
theorem dX6_passMinute_82 : decode cX6_passMinute 82 = .ok (.aload_n 0, 1) := by decide +kernel
theorem dX6_passMinute_83 : decode cX6_passMinute 83 = .ok (.dup, 1) := by decide +kernel
theorem dX6_passMinute_84 : decode cX6_passMinute 84 = .ok (.getfield 34, 3) := by decide +kernel
theorem dX6_passMinute_87 : decode cX6_passMinute 87 = .ok (.iconst 1, 1) := by decide +kernel
theorem dX6_passMinute_88 : decode cX6_passMinute 88 = .ok (.iadd, 1) := by decide +kernel
theorem dX6_passMinute_89 : decode cX6_passMinute 89 = .ok (.putfield 34, 3) := by decide +kernel
theorem dX6_passMinute_92 : decode cX6_passMinute 92 = .ok (.iload_n 2, 1) := by decide +kernel
theorem dX6_passMinute_93 : decode cX6_passMinute 93 = .ok (.ireturn, 1) := by decide +kernel
theorem dX6_giveHeat_0 : decode cX6_giveHeat 0 = .ok (.aload_n 0, 1) := by decide +kernel
theorem dX6_giveHeat_1 : decode cX6_giveHeat 1 = .ok (.aload_n 1, 1) := by decide +kernel
theorem dX6_giveHeat_2 : decode cX6_giveHeat 2 = .ok (.invokevirtual 182, 3) := by decide +kernel
theorem dX6_giveHeat_5 : decode cX6_giveHeat 5 = .ok (.aload_n 0, 1) := by decide +kernel
theorem dX6_giveHeat_6 : decode cX6_giveHeat 6 = .ok (.invokevirtual 153, 3) := by decide +kernel
theorem dX6_giveHeat_9 : decode cX6_giveHeat 9 = .ok (.istore_n 2, 1) := by decide +kernel
theorem dX6_giveHeat_10 : decode cX6_giveHeat 10 = .ok (.aload_n 0, 1) := by decide +kernel
theorem dX6_giveHeat_11 : decode cX6_giveHeat 11 = .ok (.dup, 1) := by decide +kernel
theorem dX6_giveHeat_12 : decode cX6_giveHeat 12 = .ok (.getfield 47, 3) := by decide +kernel
theorem dX6_giveHeat_15 : decode cX6_giveHeat 15 = .ok (.iload_n 2, 1) := by decide +kernel
theorem dX6_giveHeat_16 : decode cX6_giveHeat 16 = .ok (.aload_n 0, 1) := by decide +kernel
theorem dX6_giveHeat_17 : decode cX6_giveHeat 17 = .ok (.getfield 44, 3) := by decide +kernel
theorem dX6_giveHeat_20 : decode cX6_giveHeat 20 = .ok (.isub, 1) := by decide +kernel
theorem dX6_giveHeat_21 : decode cX6_giveHeat 21 = .ok (.iadd, 1) := by decide +kernel
theorem dX6_giveHeat_22 : decode cX6_giveHeat 22 = .ok (.putfield 47, 3) := by decide +kernel
theorem dX6_giveHeat_25 : decode cX6_giveHeat 25 = .ok (.iconst 0, 1) := by decide +kernel
theorem dX6_giveHeat_26 : decode cX6_giveHeat 26 = .ok (.istore_n 3, 1) := by decide +kernel
theorem dX6_giveHeat_27 : decode cX6_giveHeat 27 = .ok (.iconst 0, 1) := by decide +kernel
theorem dX6_giveHeat_28 : decode cX6_giveHeat 28 = .ok (.istore 4, 2) := by decide +kernel
theorem dX6_giveHeat_30 : decode cX6_giveHeat 30 = .ok (.iload 4, 2) := by decide +kernel
theorem dX6_giveHeat_32 : decode cX6_giveHeat 32 = .ok (.aload_n 0, 1) := by decide +kernel
theorem dX6_giveHeat_33 : decode cX6_giveHeat 33 = .ok (.getfield 27, 3) := by decide +kernel
theorem dX6_giveHeat_36 : decode cX6_giveHeat 36 = .ok (.if_icmp .ge 41, 3) := by decide +kernel
theorem dX6_giveHeat_39 : decode cX6_giveHeat 39 = .ok (.aload_n 0, 1) := by decide +kernel
theorem dX6_giveHeat_40 : decode cX6_giveHeat 40 = .ok (.getfield 17, 3) := by decide +kernel
theorem dX6_giveHeat_43 : decode cX6_giveHeat 43 = .ok (.iload 4, 2) := by decide +kernel
theorem dX6_giveHeat_45 : decode cX6_giveHeat 45 = .ok (.aaload, 1) := by decide +kernel
theorem dX6_giveHeat_46 : decode cX6_giveHeat 46 = .ok (.dup, 1) := by decide +kernel
theorem dX6_giveHeat_47 : decode cX6_giveHeat 47 = .ok (.getfield 185, 3) := by decide +kernel
theorem dX6_giveHeat_50 : decode cX6_giveHeat 50 = .ok (.aload_n 1, 1) := by decide +kernel
theorem dX6_giveHeat_51 : decode cX6_giveHeat 51 = .ok (.getfield 188, 3) := by decide +kernel
theorem dX6_giveHeat_54 : decode cX6_giveHeat 54 = .ok (.iload 4, 2) := by decide +kernel
theorem dX6_giveHeat_56 : decode cX6_giveHeat 56 = .ok (.iaload, 1) := by decide +kernel
theorem dX6_giveHeat_57 : decode cX6_giveHeat 57 = .ok (.iadd, 1) := by decide +kernel
theorem dX6_giveHeat_58 : decode cX6_giveHeat 58 = .ok (.putfield 185, 3) := by decide +kernel
theorem dX6_giveHeat_61 : decode cX6_giveHeat 61 = .ok (.iload_n 3, 1) := by decide +kernel
theorem dX6_giveHeat_62 : decode cX6_giveHeat 62 = .ok (.aload_n 1, 1) := by decide +kernel
theorem dX6_giveHeat_63 : decode cX6_giveHeat 63 = .ok (.getfield 188, 3) := by decide +kernel
theorem dX6_giveHeat_66 : decode cX6_giveHeat 66 = .ok (.iload 4, 2) := by decide +kernel
theorem dX6_giveHeat_68 : decode cX6_giveHeat 68 = .ok (.iaload, 1) := by decide +kernel
theorem dX6_giveHeat_69 : decode cX6_giveHeat 69 = .ok (.iadd, 1) := by decide +kernel
theorem dX6_giveHeat_70 : decode cX6_giveHeat 70 = .ok (.istore_n 3, 1) := by decide +kernel
theorem dX6_giveHeat_71 : decode cX6_giveHeat 71 = .ok (.iinc 4 1, 3) := by decide +kernel
theorem dX6_giveHeat_74 : decode cX6_giveHeat 74 = .ok (.goto (-44), 3) := by decide +kernel
theorem dX6_giveHeat_77 : decode cX6_giveHeat 77 = .ok (.aload_n 0, 1) := by decide +kernel
theorem dX6_giveHeat_78 : decode cX6_giveHeat 78 = .ok (.iload_n 2, 1) := by decide +kernel
theorem dX6_giveHeat_79 : decode cX6_giveHeat 79 = .ok (.iload_n 3, 1) := by decide +kernel
theorem dX6_giveHeat_80 : decode cX6_giveHeat 80 = .ok (.isub, 1) := by decide +kernel
theorem dX6_giveHeat_81 : decode cX6_giveHeat 81 = .ok (.putfield 44, 3) := by decide +kernel
theorem dX6_giveHeat_84 : decode cX6_giveHeat 84 = .ok (.aload_n 0, 1) := by decide +kernel
theorem dX6_giveHeat_85 : decode cX6_giveHeat 85 = .ok (.dup, 1) := by decide +kernel
theorem dX6_giveHeat_86 : decode cX6_giveHeat 86 = .ok (.getfield 50, 3) := by decide +kernel
theorem dX6_giveHeat_89 : decode cX6_giveHeat 89 = .ok (.iload_n 3, 1) := by decide +kernel
theorem dX6_giveHeat_90 : decode cX6_giveHeat 90 = .ok (.iadd, 1) := by decide +kernel
theorem dX6_giveHeat_91 : decode cX6_giveHeat 91 = .ok (.putfield 50, 3) := by decide +kernel
theorem dX6_giveHeat_94 : decode cX6_giveHeat 94 = .ok (.iload_n 3, 1) := by decide +kernel
theorem dX6_giveHeat_95 : decode cX6_giveHeat 95 = .ok (.ireturn, 1) := by decide +kernel
theorem dX6_work_0 : decode cX6_work 0 = .ok (.iconst 0, 1) := by decide +kernel
theorem dX6_work_1 : decode cX6_work 1 = .ok (.istore_n 2, 1) := by decide +kernel
theorem dX6_work_2 : decode cX6_work 2 = .ok (.iload_n 2, 1) := by decide +kernel
theorem dX6_work_3 : decode cX6_work 3 = .ok (.aload_n 0, 1) := by decide +kernel
theorem dX6_work_4 : decode cX6_work 4 = .ok (.getfield 27, 3) := by decide +kernel
theorem dX6_work_7 : decode cX6_work 7 = .ok (.if_icmp .ge 53, 3) := by decide +kernel
theorem dX6_work_10 : decode cX6_work 10 = .ok (.aload_n 0, 1) := by decide +kernel
theorem dX6_work_11 : decode cX6_work 11 = .ok (.iload_n 2, 1) := by decide +kernel
theorem dX6_work_12 : decode cX6_work 12 = .ok (.invokevirtual 86, 3) := by decide +kernel
theorem dX6_work_15 : decode cX6_work 15 = .ok (.getfield 118, 3) := by decide +kernel
theorem dX6_work_18 : decode cX6_work 18 = .ok (.iconst 1, 1) := by decide +kernel
theorem dX6_work_19 : decode cX6_work 19 = .ok (.if_icmp .ne 35, 3) := by decide +kernel
theorem dX6_work_22 : decode cX6_work 22 = .ok (.aload_n 0, 1) := by decide +kernel
theorem dX6_work_23 : decode cX6_work 23 = .ok (.iload_n 2, 1) := by decide +kernel
theorem dX6_work_24 : decode cX6_work 24 = .ok (.invokevirtual 86, 3) := by decide +kernel
theorem dX6_work_27 : decode cX6_work 27 = .ok (.aload_n 1, 1) := by decide +kernel
theorem dX6_work_28 : decode cX6_work 28 = .ok (.getfield 188, 3) := by decide +kernel
theorem dX6_work_31 : decode cX6_work 31 = .ok (.iload_n 2, 1) := by decide +kernel
theorem dX6_work_32 : decode cX6_work 32 = .ok (.iaload, 1) := by decide +kernel
theorem dX6_work_33 : decode cX6_work 33 = .ok (.invokevirtual 191, 3) := by decide +kernel
theorem dX6_work_36 : decode cX6_work 36 = .ok (.ifCond .eq 18, 3) := by decide +kernel
theorem dX6_work_39 : decode cX6_work 39 = .ok (.aload_n 0, 1) := by decide +kernel
theorem dX6_work_40 : decode cX6_work 40 = .ok (.getfield 17, 3) := by decide +kernel
theorem dX6_work_43 : decode cX6_work 43 = .ok (.iload_n 2, 1) := by decide +kernel
theorem dX6_work_44 : decode cX6_work 44 = .ok (.aaload, 1) := by decide +kernel
theorem dX6_work_45 : decode cX6_work 45 = .ok (.dup, 1) := by decide +kernel
theorem dX6_work_46 : decode cX6_work 46 = .ok (.getfield 195, 3) := by decide +kernel
theorem dX6_work_49 : decode cX6_work 49 = .ok (.iconst 1, 1) := by decide +kernel
theorem dX6_work_50 : decode cX6_work 50 = .ok (.iadd, 1) := by decide +kernel
theorem dX6_work_51 : decode cX6_work 51 = .ok (.putfield 195, 3) := by decide +kernel
theorem dX6_work_54 : decode cX6_work 54 = .ok (.iinc 2 1, 3) := by decide +kernel
theorem dX6_work_57 : decode cX6_work 57 = .ok (.goto (-55), 3) := by decide +kernel
theorem dX6_work_60 : decode cX6_work 60 = .ok (.return_, 1) := by decide +kernel
theorem dX6_shortenLeases_0 : decode cX6_shortenLeases 0 = .ok (.iconst 0, 1) := by decide +kernel
theorem dX6_shortenLeases_1 : decode cX6_shortenLeases 1 = .ok (.istore_n 1, 1) := by decide +kernel
theorem dX6_shortenLeases_2 : decode cX6_shortenLeases 2 = .ok (.iconst 0, 1) := by decide +kernel
theorem dX6_shortenLeases_3 : decode cX6_shortenLeases 3 = .ok (.istore_n 2, 1) := by decide +kernel
theorem dX6_shortenLeases_4 : decode cX6_shortenLeases 4 = .ok (.iload_n 2, 1) := by decide +kernel
theorem dX6_shortenLeases_5 : decode cX6_shortenLeases 5 = .ok (.aload_n 0, 1) := by decide +kernel
theorem dX6_shortenLeases_6 : decode cX6_shortenLeases 6 = .ok (.getfield 31, 3) := by decide +kernel
theorem dX6_shortenLeases_9 : decode cX6_shortenLeases 9 = .ok (.if_icmp .ge 54, 3) := by decide +kernel
theorem dX6_shortenLeases_12 : decode cX6_shortenLeases 12 = .ok (.aload_n 0, 1) := by decide +kernel
theorem dX6_shortenLeases_13 : decode cX6_shortenLeases 13 = .ok (.getfield 23, 3) := by decide +kernel
theorem dX6_shortenLeases_16 : decode cX6_shortenLeases 16 = .ok (.iload_n 2, 1) := by decide +kernel
theorem dX6_shortenLeases_17 : decode cX6_shortenLeases 17 = .ok (.aaload, 1) := by decide +kernel
theorem dX6_shortenLeases_18 : decode cX6_shortenLeases 18 = .ok (.dup, 1) := by decide +kernel
theorem dX6_shortenLeases_19 : decode cX6_shortenLeases 19 = .ok (.getfield 136, 3) := by decide +kernel
theorem dX6_shortenLeases_22 : decode cX6_shortenLeases 22 = .ok (.iconst 1, 1) := by decide +kernel
theorem dX6_shortenLeases_23 : decode cX6_shortenLeases 23 = .ok (.isub, 1) := by decide +kernel
theorem dX6_shortenLeases_24 : decode cX6_shortenLeases 24 = .ok (.putfield 136, 3) := by decide +kernel
theorem dX6_shortenLeases_27 : decode cX6_shortenLeases 27 = .ok (.aload_n 0, 1) := by decide +kernel
theorem dX6_shortenLeases_28 : decode cX6_shortenLeases 28 = .ok (.getfield 23, 3) := by decide +kernel
theorem dX6_shortenLeases_31 : decode cX6_shortenLeases 31 = .ok (.iload_n 2, 1) := by decide +kernel
theorem dX6_shortenLeases_32 : decode cX6_shortenLeases 32 = .ok (.aaload, 1) := by decide +kernel
theorem dX6_shortenLeases_33 : decode cX6_shortenLeases 33 = .ok (.getfield 136, 3) := by decide +kernel
theorem dX6_shortenLeases_36 : decode cX6_shortenLeases 36 = .ok (.ifCond .le 21, 3) := by decide +kernel
theorem dX6_shortenLeases_39 : decode cX6_shortenLeases 39 = .ok (.aload_n 0, 1) := by decide +kernel
theorem dX6_shortenLeases_40 : decode cX6_shortenLeases 40 = .ok (.getfield 23, 3) := by decide +kernel
theorem dX6_shortenLeases_43 : decode cX6_shortenLeases 43 = .ok (.iload_n 1, 1) := by decide +kernel
theorem dX6_shortenLeases_44 : decode cX6_shortenLeases 44 = .ok (.aaload, 1) := by decide +kernel
theorem dX6_shortenLeases_45 : decode cX6_shortenLeases 45 = .ok (.aload_n 0, 1) := by decide +kernel
theorem dX6_shortenLeases_46 : decode cX6_shortenLeases 46 = .ok (.getfield 23, 3) := by decide +kernel
theorem dX6_shortenLeases_49 : decode cX6_shortenLeases 49 = .ok (.iload_n 2, 1) := by decide +kernel
theorem dX6_shortenLeases_50 : decode cX6_shortenLeases 50 = .ok (.aaload, 1) := by decide +kernel
theorem dX6_shortenLeases_51 : decode cX6_shortenLeases 51 = .ok (.invokevirtual 66, 3) := by decide +kernel
theorem dX6_shortenLeases_54 : decode cX6_shortenLeases 54 = .ok (.iinc 1 1, 3) := by decide +kernel
theorem dX6_shortenLeases_57 : decode cX6_shortenLeases 57 = .ok (.iinc 2 1, 3) := by decide +kernel
theorem dX6_shortenLeases_60 : decode cX6_shortenLeases 60 = .ok (.goto (-56), 3) := by decide +kernel
theorem dX6_shortenLeases_63 : decode cX6_shortenLeases 63 = .ok (.aload_n 0, 1) := by decide +kernel
theorem dX6_shortenLeases_64 : decode cX6_shortenLeases 64 = .ok (.iload_n 1, 1) := by decide +kernel
theorem dX6_shortenLeases_65 : decode cX6_shortenLeases 65 = .ok (.putfield 31, 3) := by decide +kernel
theorem dX6_shortenLeases_68 : decode cX6_shortenLeases 68 = .ok (.return_, 1) := by decide +kernel
theorem dX6_washersIn_0 : decode cX6_washersIn 0 = .ok (.iconst 0, 1) := by decide +kernel
theorem dX6_washersIn_1 : decode cX6_washersIn 1 = .ok (.istore_n 2, 1) := by decide +kernel
theorem dX6_washersIn_2 : decode cX6_washersIn 2 = .ok (.iconst 0, 1) := by decide +kernel
theorem dX6_washersIn_3 : decode cX6_washersIn 3 = .ok (.istore_n 3, 1) := by decide +kernel
theorem dX6_washersIn_4 : decode cX6_washersIn 4 = .ok (.iload_n 3, 1) := by decide +kernel
theorem dX6_washersIn_5 : decode cX6_washersIn 5 = .ok (.aload_n 0, 1) := by decide +kernel
theorem dX6_washersIn_6 : decode cX6_washersIn 6 = .ok (.getfield 27, 3) := by decide +kernel
theorem dX6_washersIn_9 : decode cX6_washersIn 9 = .ok (.if_icmp .ge 29, 3) := by decide +kernel
theorem dX6_washersIn_12 : decode cX6_washersIn 12 = .ok (.iload_n 2, 1) := by decide +kernel
theorem dX6_washersIn_13 : decode cX6_washersIn 13 = .ok (.aload_n 0, 1) := by decide +kernel
theorem dX6_washersIn_14 : decode cX6_washersIn 14 = .ok (.iload_n 3, 1) := by decide +kernel
theorem dX6_washersIn_15 : decode cX6_washersIn 15 = .ok (.invokevirtual 86, 3) := by decide +kernel
theorem dX6_washersIn_18 : decode cX6_washersIn 18 = .ok (.getfield 118, 3) := by decide +kernel
theorem dX6_washersIn_21 : decode cX6_washersIn 21 = .ok (.iload_n 1, 1) := by decide +kernel
theorem dX6_washersIn_22 : decode cX6_washersIn 22 = .ok (.if_icmp .ne 7, 3) := by decide +kernel
theorem dX6_washersIn_25 : decode cX6_washersIn 25 = .ok (.iconst 1, 1) := by decide +kernel
theorem dX6_washersIn_26 : decode cX6_washersIn 26 = .ok (.goto 4, 3) := by decide +kernel
theorem dX6_washersIn_29 : decode cX6_washersIn 29 = .ok (.iconst 0, 1) := by decide +kernel
theorem dX6_washersIn_30 : decode cX6_washersIn 30 = .ok (.iadd, 1) := by decide +kernel
theorem dX6_washersIn_31 : decode cX6_washersIn 31 = .ok (.istore_n 2, 1) := by decide +kernel
theorem dX6_washersIn_32 : decode cX6_washersIn 32 = .ok (.iinc 3 1, 3) := by decide +kernel
theorem dX6_washersIn_35 : decode cX6_washersIn 35 = .ok (.goto (-31), 3) := by decide +kernel
theorem dX6_washersIn_38 : decode cX6_washersIn 38 = .ok (.iload_n 2, 1) := by decide +kernel
theorem dX6_washersIn_39 : decode cX6_washersIn 39 = .ok (.ireturn, 1) := by decide +kernel
theorem dX6_doorsIn_0 : decode cX6_doorsIn 0 = .ok (.iconst 0, 1) := by decide +kernel
theorem dX6_doorsIn_1 : decode cX6_doorsIn 1 = .ok (.istore_n 2, 1) := by decide +kernel
theorem dX6_doorsIn_2 : decode cX6_doorsIn 2 = .ok (.iconst 0, 1) := by decide +kernel
theorem dX6_doorsIn_3 : decode cX6_doorsIn 3 = .ok (.istore_n 3, 1) := by decide +kernel
theorem dX6_doorsIn_4 : decode cX6_doorsIn 4 = .ok (.iload_n 3, 1) := by decide +kernel
theorem dX6_doorsIn_5 : decode cX6_doorsIn 5 = .ok (.aload_n 0, 1) := by decide +kernel
theorem dX6_doorsIn_6 : decode cX6_doorsIn 6 = .ok (.getfield 27, 3) := by decide +kernel
theorem dX6_doorsIn_9 : decode cX6_doorsIn 9 = .ok (.if_icmp .ge 29, 3) := by decide +kernel
theorem dX6_doorsIn_12 : decode cX6_doorsIn 12 = .ok (.iload_n 2, 1) := by decide +kernel
theorem dX6_doorsIn_13 : decode cX6_doorsIn 13 = .ok (.aload_n 0, 1) := by decide +kernel
theorem dX6_doorsIn_14 : decode cX6_doorsIn 14 = .ok (.iload_n 3, 1) := by decide +kernel
theorem dX6_doorsIn_15 : decode cX6_doorsIn 15 = .ok (.invokevirtual 86, 3) := by decide +kernel
theorem dX6_doorsIn_18 : decode cX6_doorsIn 18 = .ok (.getfield 95, 3) := by decide +kernel
theorem dX6_doorsIn_21 : decode cX6_doorsIn 21 = .ok (.iload_n 1, 1) := by decide +kernel
theorem dX6_doorsIn_22 : decode cX6_doorsIn 22 = .ok (.if_icmp .ne 7, 3) := by decide +kernel
theorem dX6_doorsIn_25 : decode cX6_doorsIn 25 = .ok (.iconst 1, 1) := by decide +kernel
theorem dX6_doorsIn_26 : decode cX6_doorsIn 26 = .ok (.goto 4, 3) := by decide +kernel
theorem dX6_doorsIn_29 : decode cX6_doorsIn 29 = .ok (.iconst 0, 1) := by decide +kernel
theorem dX6_doorsIn_30 : decode cX6_doorsIn 30 = .ok (.iadd, 1) := by decide +kernel
theorem dX6_doorsIn_31 : decode cX6_doorsIn 31 = .ok (.istore_n 2, 1) := by decide +kernel
theorem dX6_doorsIn_32 : decode cX6_doorsIn 32 = .ok (.iinc 3 1, 3) := by decide +kernel
theorem dX6_doorsIn_35 : decode cX6_doorsIn 35 = .ok (.goto (-31), 3) := by decide +kernel
theorem dX6_doorsIn_38 : decode cX6_doorsIn 38 = .ok (.iload_n 2, 1) := by decide +kernel
theorem dX6_doorsIn_39 : decode cX6_doorsIn 39 = .ok (.ireturn, 1) := by decide +kernel
theorem dX6_sumOf_0 : decode cX6_sumOf 0 = .ok (.iconst 0, 1) := by decide +kernel
theorem dX6_sumOf_1 : decode cX6_sumOf 1 = .ok (.istore_n 2, 1) := by decide +kernel
theorem dX6_sumOf_2 : decode cX6_sumOf 2 = .ok (.iconst 0, 1) := by decide +kernel
theorem dX6_sumOf_3 : decode cX6_sumOf 3 = .ok (.istore_n 3, 1) := by decide +kernel
theorem dX6_sumOf_4 : decode cX6_sumOf 4 = .ok (.iload_n 3, 1) := by decide +kernel
theorem dX6_sumOf_5 : decode cX6_sumOf 5 = .ok (.aload_n 0, 1) := by decide +kernel
theorem dX6_sumOf_6 : decode cX6_sumOf 6 = .ok (.getfield 27, 3) := by decide +kernel
theorem dX6_sumOf_9 : decode cX6_sumOf 9 = .ok (.if_icmp .ge 22, 3) := by decide +kernel
theorem dX6_sumOf_12 : decode cX6_sumOf 12 = .ok (.iload_n 2, 1) := by decide +kernel
theorem dX6_sumOf_13 : decode cX6_sumOf 13 = .ok (.aload_n 0, 1) := by decide +kernel
theorem dX6_sumOf_14 : decode cX6_sumOf 14 = .ok (.getfield 17, 3) := by decide +kernel
theorem dX6_sumOf_17 : decode cX6_sumOf 17 = .ok (.iload_n 3, 1) := by decide +kernel
theorem dX6_sumOf_18 : decode cX6_sumOf 18 = .ok (.aaload, 1) := by decide +kernel
theorem dX6_sumOf_19 : decode cX6_sumOf 19 = .ok (.iload_n 1, 1) := by decide +kernel
theorem dX6_sumOf_20 : decode cX6_sumOf 20 = .ok (.invokevirtual 198, 3) := by decide +kernel
theorem dX6_sumOf_23 : decode cX6_sumOf 23 = .ok (.iadd, 1) := by decide +kernel
theorem dX6_sumOf_24 : decode cX6_sumOf 24 = .ok (.istore_n 2, 1) := by decide +kernel
theorem dX6_sumOf_25 : decode cX6_sumOf 25 = .ok (.iinc 3 1, 3) := by decide +kernel
theorem dX6_sumOf_28 : decode cX6_sumOf 28 = .ok (.goto (-24), 3) := by decide +kernel
theorem dX6_sumOf_31 : decode cX6_sumOf 31 = .ok (.iload_n 2, 1) := by decide +kernel
theorem dX6_sumOf_32 : decode cX6_sumOf 32 = .ok (.ireturn, 1) := by decide +kernel
theorem dX6_tell_0 : decode cX6_tell 0 = .ok (.iload_n 1, 1) := by decide +kernel
theorem dX6_tell_1 : decode cX6_tell 1 = .ok (.tableswitch 150 0 12 #[67, 72, 85, 90, 96, 102, 108, 114, 119, 126, 133, 138, 144], 67) := by decide +kernel
theorem dX6_tell_68 : decode cX6_tell 68 = .ok (.aload_n 0, 1) := by decide +kernel
theorem dX6_tell_69 : decode cX6_tell 69 = .ok (.getfield 34, 3) := by decide +kernel
theorem dX6_tell_72 : decode cX6_tell 72 = .ok (.ireturn, 1) := by decide +kernel
theorem dX6_tell_73 : decode cX6_tell 73 = .ok (.aload_n 0, 1) := by decide +kernel
theorem dX6_tell_74 : decode cX6_tell 74 = .ok (.getfield 40, 3) := by decide +kernel
theorem dX6_tell_77 : decode cX6_tell 77 = .ok (.ifCond .eq 7, 3) := by decide +kernel
theorem dX6_tell_80 : decode cX6_tell 80 = .ok (.iconst 1, 1) := by decide +kernel
theorem dX6_tell_81 : decode cX6_tell 81 = .ok (.goto 4, 3) := by decide +kernel
theorem dX6_tell_84 : decode cX6_tell 84 = .ok (.iconst 0, 1) := by decide +kernel
theorem dX6_tell_85 : decode cX6_tell 85 = .ok (.ireturn, 1) := by decide +kernel
theorem dX6_tell_86 : decode cX6_tell 86 = .ok (.aload_n 0, 1) := by decide +kernel
theorem dX6_tell_87 : decode cX6_tell 87 = .ok (.getfield 27, 3) := by decide +kernel
theorem dX6_tell_90 : decode cX6_tell 90 = .ok (.ireturn, 1) := by decide +kernel
theorem dX6_tell_91 : decode cX6_tell 91 = .ok (.aload_n 0, 1) := by decide +kernel
theorem dX6_tell_92 : decode cX6_tell 92 = .ok (.iconst 1, 1) := by decide +kernel
theorem dX6_tell_93 : decode cX6_tell 93 = .ok (.invokevirtual 201, 3) := by decide +kernel
theorem dX6_tell_96 : decode cX6_tell 96 = .ok (.ireturn, 1) := by decide +kernel
theorem dX6_tell_97 : decode cX6_tell 97 = .ok (.aload_n 0, 1) := by decide +kernel
theorem dX6_tell_98 : decode cX6_tell 98 = .ok (.iconst 2, 1) := by decide +kernel
theorem dX6_tell_99 : decode cX6_tell 99 = .ok (.invokevirtual 201, 3) := by decide +kernel
theorem dX6_tell_102 : decode cX6_tell 102 = .ok (.ireturn, 1) := by decide +kernel
theorem dX6_tell_103 : decode cX6_tell 103 = .ok (.aload_n 0, 1) := by decide +kernel
theorem dX6_tell_104 : decode cX6_tell 104 = .ok (.iconst 2, 1) := by decide +kernel
theorem dX6_tell_105 : decode cX6_tell 105 = .ok (.invokevirtual 204, 3) := by decide +kernel
theorem dX6_tell_108 : decode cX6_tell 108 = .ok (.ireturn, 1) := by decide +kernel
theorem dX6_tell_109 : decode cX6_tell 109 = .ok (.aload_n 0, 1) := by decide +kernel
theorem dX6_tell_110 : decode cX6_tell 110 = .ok (.iconst 0, 1) := by decide +kernel
theorem dX6_tell_111 : decode cX6_tell 111 = .ok (.invokevirtual 204, 3) := by decide +kernel
theorem dX6_tell_114 : decode cX6_tell 114 = .ok (.ireturn, 1) := by decide +kernel
theorem dX6_tell_115 : decode cX6_tell 115 = .ok (.aload_n 0, 1) := by decide +kernel
theorem dX6_tell_116 : decode cX6_tell 116 = .ok (.getfield 31, 3) := by decide +kernel
theorem dX6_tell_119 : decode cX6_tell 119 = .ok (.ireturn, 1) := by decide +kernel
theorem dX6_tell_120 : decode cX6_tell 120 = .ok (.aload_n 0, 1) := by decide +kernel
theorem dX6_tell_121 : decode cX6_tell 121 = .ok (.bipush 6, 2) := by decide +kernel
theorem dX6_tell_123 : decode cX6_tell 123 = .ok (.invokevirtual 207, 3) := by decide +kernel
theorem dX6_tell_126 : decode cX6_tell 126 = .ok (.ireturn, 1) := by decide +kernel
theorem dX6_tell_127 : decode cX6_tell 127 = .ok (.aload_n 0, 1) := by decide +kernel
theorem dX6_tell_128 : decode cX6_tell 128 = .ok (.bipush 7, 2) := by decide +kernel
theorem dX6_tell_130 : decode cX6_tell 130 = .ok (.invokevirtual 207, 3) := by decide +kernel
theorem dX6_tell_133 : decode cX6_tell 133 = .ok (.ireturn, 1) := by decide +kernel
theorem dX6_tell_134 : decode cX6_tell 134 = .ok (.aload_n 0, 1) := by decide +kernel
theorem dX6_tell_135 : decode cX6_tell 135 = .ok (.getfield 37, 3) := by decide +kernel
theorem dX6_tell_138 : decode cX6_tell 138 = .ok (.ireturn, 1) := by decide +kernel
theorem dX6_tell_139 : decode cX6_tell 139 = .ok (.aload_n 0, 1) := by decide +kernel
theorem dX6_tell_140 : decode cX6_tell 140 = .ok (.iconst 5, 1) := by decide +kernel
theorem dX6_tell_141 : decode cX6_tell 141 = .ok (.invokevirtual 207, 3) := by decide +kernel
theorem dX6_tell_144 : decode cX6_tell 144 = .ok (.ireturn, 1) := by decide +kernel
theorem dX6_tell_145 : decode cX6_tell 145 = .ok (.aload_n 0, 1) := by decide +kernel
theorem dX6_tell_146 : decode cX6_tell 146 = .ok (.iconst 1, 1) := by decide +kernel
theorem dX6_tell_147 : decode cX6_tell 147 = .ok (.invokevirtual 207, 3) := by decide +kernel
theorem dX6_tell_150 : decode cX6_tell 150 = .ok (.ireturn, 1) := by decide +kernel
theorem dX6_tell_151 : decode cX6_tell 151 = .ok (.bipush (-2), 2) := by decide +kernel
theorem dX6_tell_153 : decode cX6_tell 153 = .ok (.ireturn, 1) := by decide +kernel
theorem dX7_init_0 : decode cX7_init 0 = .ok (.aload_n 0, 1) := by decide +kernel
theorem dX7_init_1 : decode cX7_init 1 = .ok (.invokespecial 3, 3) := by decide +kernel
theorem dX7_init_4 : decode cX7_init 4 = .ok (.aload_n 0, 1) := by decide +kernel
theorem dX7_init_5 : decode cX7_init 5 = .ok (.iconst 0, 1) := by decide +kernel
theorem dX7_init_6 : decode cX7_init 6 = .ok (.putfield 9, 3) := by decide +kernel
theorem dX7_init_9 : decode cX7_init 9 = .ok (.aload_n 0, 1) := by decide +kernel
theorem dX7_init_10 : decode cX7_init 10 = .ok (.iconst 1, 1) := by decide +kernel
theorem dX7_init_11 : decode cX7_init 11 = .ok (.putfield 15, 3) := by decide +kernel
theorem dX7_init_14 : decode cX7_init 14 = .ok (.aload_n 0, 1) := by decide +kernel
theorem dX7_init_15 : decode cX7_init 15 = .ok (.iconst 0, 1) := by decide +kernel
theorem dX7_init_16 : decode cX7_init 16 = .ok (.putfield 18, 3) := by decide +kernel
theorem dX7_init_19 : decode cX7_init 19 = .ok (.aload_n 0, 1) := by decide +kernel
theorem dX7_init_20 : decode cX7_init 20 = .ok (.iconst 0, 1) := by decide +kernel
theorem dX7_init_21 : decode cX7_init 21 = .ok (.putfield 21, 3) := by decide +kernel
theorem dX7_init_24 : decode cX7_init 24 = .ok (.aload_n 0, 1) := by decide +kernel
theorem dX7_init_25 : decode cX7_init 25 = .ok (.iconst 0, 1) := by decide +kernel
theorem dX7_init_26 : decode cX7_init 26 = .ok (.putfield 24, 3) := by decide +kernel
theorem dX7_init_29 : decode cX7_init 29 = .ok (.aload_n 0, 1) := by decide +kernel
theorem dX7_init_30 : decode cX7_init 30 = .ok (.lconst 0, 1) := by decide +kernel
theorem dX7_init_31 : decode cX7_init 31 = .ok (.putfield 27, 3) := by decide +kernel
theorem dX7_init_34 : decode cX7_init 34 = .ok (.aload_n 0, 1) := by decide +kernel
theorem dX7_init_35 : decode cX7_init 35 = .ok (.iconst 0, 1) := by decide +kernel
theorem dX7_init_36 : decode cX7_init 36 = .ok (.putfield 31, 3) := by decide +kernel
theorem dX7_init_39 : decode cX7_init 39 = .ok (.aload_n 0, 1) := by decide +kernel
theorem dX7_init_40 : decode cX7_init 40 = .ok (.aload_n 1, 1) := by decide +kernel
theorem dX7_init_41 : decode cX7_init 41 = .ok (.putfield 34, 3) := by decide +kernel
theorem dX7_init_44 : decode cX7_init 44 = .ok (.return_, 1) := by decide +kernel
theorem dX7_copyFrom_0 : decode cX7_copyFrom 0 = .ok (.aload_n 0, 1) := by decide +kernel
theorem dX7_copyFrom_1 : decode cX7_copyFrom 1 = .ok (.aload_n 1, 1) := by decide +kernel
theorem dX7_copyFrom_2 : decode cX7_copyFrom 2 = .ok (.getfield 34, 3) := by decide +kernel
theorem dX7_copyFrom_5 : decode cX7_copyFrom 5 = .ok (.putfield 34, 3) := by decide +kernel
theorem dX7_copyFrom_8 : decode cX7_copyFrom 8 = .ok (.aload_n 0, 1) := by decide +kernel
theorem dX7_copyFrom_9 : decode cX7_copyFrom 9 = .ok (.aload_n 1, 1) := by decide +kernel
theorem dX7_copyFrom_10 : decode cX7_copyFrom 10 = .ok (.getfield 9, 3) := by decide +kernel
theorem dX7_copyFrom_13 : decode cX7_copyFrom 13 = .ok (.putfield 9, 3) := by decide +kernel
theorem dX7_copyFrom_16 : decode cX7_copyFrom 16 = .ok (.aload_n 0, 1) := by decide +kernel
theorem dX7_copyFrom_17 : decode cX7_copyFrom 17 = .ok (.aload_n 1, 1) := by decide +kernel
theorem dX7_copyFrom_18 : decode cX7_copyFrom 18 = .ok (.getfield 15, 3) := by decide +kernel
theorem dX7_copyFrom_21 : decode cX7_copyFrom 21 = .ok (.putfield 15, 3) := by decide +kernel
theorem dX7_copyFrom_24 : decode cX7_copyFrom 24 = .ok (.aload_n 0, 1) := by decide +kernel
theorem dX7_copyFrom_25 : decode cX7_copyFrom 25 = .ok (.aload_n 1, 1) := by decide +kernel
theorem dX7_copyFrom_26 : decode cX7_copyFrom 26 = .ok (.getfield 18, 3) := by decide +kernel
theorem dX7_copyFrom_29 : decode cX7_copyFrom 29 = .ok (.putfield 18, 3) := by decide +kernel
theorem dX7_copyFrom_32 : decode cX7_copyFrom 32 = .ok (.aload_n 0, 1) := by decide +kernel
theorem dX7_copyFrom_33 : decode cX7_copyFrom 33 = .ok (.aload_n 1, 1) := by decide +kernel
theorem dX7_copyFrom_34 : decode cX7_copyFrom 34 = .ok (.getfield 21, 3) := by decide +kernel
theorem dX7_copyFrom_37 : decode cX7_copyFrom 37 = .ok (.putfield 21, 3) := by decide +kernel
theorem dX7_copyFrom_40 : decode cX7_copyFrom 40 = .ok (.aload_n 0, 1) := by decide +kernel
theorem dX7_copyFrom_41 : decode cX7_copyFrom 41 = .ok (.aload_n 1, 1) := by decide +kernel
theorem dX7_copyFrom_42 : decode cX7_copyFrom 42 = .ok (.getfield 24, 3) := by decide +kernel
theorem dX7_copyFrom_45 : decode cX7_copyFrom 45 = .ok (.putfield 24, 3) := by decide +kernel
theorem dX7_copyFrom_48 : decode cX7_copyFrom 48 = .ok (.aload_n 0, 1) := by decide +kernel
theorem dX7_copyFrom_49 : decode cX7_copyFrom 49 = .ok (.aload_n 1, 1) := by decide +kernel
theorem dX7_copyFrom_50 : decode cX7_copyFrom 50 = .ok (.getfield 27, 3) := by decide +kernel
theorem dX7_copyFrom_53 : decode cX7_copyFrom 53 = .ok (.putfield 27, 3) := by decide +kernel
theorem dX7_copyFrom_56 : decode cX7_copyFrom 56 = .ok (.aload_n 0, 1) := by decide +kernel
theorem dX7_copyFrom_57 : decode cX7_copyFrom 57 = .ok (.aload_n 1, 1) := by decide +kernel
theorem dX7_copyFrom_58 : decode cX7_copyFrom 58 = .ok (.getfield 31, 3) := by decide +kernel
theorem dX7_copyFrom_61 : decode cX7_copyFrom 61 = .ok (.putfield 31, 3) := by decide +kernel
theorem dX7_copyFrom_64 : decode cX7_copyFrom 64 = .ok (.return_, 1) := by decide +kernel
theorem dX7_temperature_0 : decode cX7_temperature 0 = .ok (.aload_n 0, 1) := by decide +kernel
theorem dX7_temperature_1 : decode cX7_temperature 1 = .ok (.getfield 24, 3) := by decide +kernel
theorem dX7_temperature_4 : decode cX7_temperature 4 = .ok (.ifCond .le 21, 3) := by decide +kernel
theorem dX7_temperature_7 : decode cX7_temperature 7 = .ok (.aload_n 0, 1) := by decide +kernel
theorem dX7_temperature_8 : decode cX7_temperature 8 = .ok (.getfield 27, 3) := by decide +kernel
theorem dX7_temperature_11 : decode cX7_temperature 11 = .ok (.ldc2_w 38, 3) := by decide +kernel
theorem dX7_temperature_14 : decode cX7_temperature 14 = .ok (.aload_n 0, 1) := by decide +kernel
theorem dX7_temperature_15 : decode cX7_temperature 15 = .ok (.getfield 24, 3) := by decide +kernel
theorem dX7_temperature_18 : decode cX7_temperature 18 = .ok (.i2l, 1) := by decide +kernel
theorem dX7_temperature_19 : decode cX7_temperature 19 = .ok (.lmul, 1) := by decide +kernel
theorem dX7_temperature_20 : decode cX7_temperature 20 = .ok (.ldiv, 1) := by decide +kernel
theorem dX7_temperature_21 : decode cX7_temperature 21 = .ok (.l2i, 1) := by decide +kernel
theorem dX7_temperature_22 : decode cX7_temperature 22 = .ok (.goto 5, 3) := by decide +kernel
theorem dX7_temperature_25 : decode cX7_temperature 25 = .ok (.bipush 15, 2) := by decide +kernel
theorem dX7_temperature_27 : decode cX7_temperature 27 = .ok (.ireturn, 1) := by decide +kernel
theorem dX7_canStart_0 : decode cX7_canStart 0 = .ok (.aload_n 0, 1) := by decide +kernel
theorem dX7_canStart_1 : decode cX7_canStart 1 = .ok (.getfield 34, 3) := by decide +kernel
theorem dX7_canStart_4 : decode cX7_canStart 4 = .ok (.getfield 40, 3) := by decide +kernel
theorem dX7_canStart_7 : decode cX7_canStart 7 = .ok (.ifCond .le 21, 3) := by decide +kernel
theorem dX7_canStart_10 : decode cX7_canStart 10 = .ok (.aload_n 0, 1) := by decide +kernel
theorem dX7_canStart_11 : decode cX7_canStart 11 = .ok (.getfield 9, 3) := by decide +kernel
theorem dX7_canStart_14 : decode cX7_canStart 14 = .ok (.ifCond .ne 14, 3) := by decide +kernel
theorem dX7_canStart_17 : decode cX7_canStart 17 = .ok (.aload_n 0, 1) := by decide +kernel
theorem dX7_canStart_18 : decode cX7_canStart 18 = .ok (.getfield 15, 3) := by decide +kernel
theorem dX7_canStart_21 : decode cX7_canStart 21 = .ok (.ifCond .eq 7, 3) := by decide +kernel
theorem dX7_canStart_24 : decode cX7_canStart 24 = .ok (.iconst 1, 1) := by decide +kernel
theorem dX7_canStart_25 : decode cX7_canStart 25 = .ok (.goto 4, 3) := by decide +kernel
theorem dX7_canStart_28 : decode cX7_canStart 28 = .ok (.iconst 0, 1) := by decide +kernel
theorem dX7_canStart_29 : decode cX7_canStart 29 = .ok (.ireturn, 1) := by decide +kernel
theorem dX7_begin_0 : decode cX7_begin 0 = .ok (.aload_n 0, 1) := by decide +kernel
theorem dX7_begin_1 : decode cX7_begin 1 = .ok (.iconst 1, 1) := by decide +kernel
theorem dX7_begin_2 : decode cX7_begin 2 = .ok (.putfield 9, 3) := by decide +kernel
theorem dX7_begin_5 : decode cX7_begin 5 = .ok (.aload_n 0, 1) := by decide +kernel
theorem dX7_begin_6 : decode cX7_begin 6 = .ok (.iconst 2, 1) := by decide +kernel
theorem dX7_begin_7 : decode cX7_begin 7 = .ok (.putfield 15, 3) := by decide +kernel
theorem dX7_begin_10 : decode cX7_begin 10 = .ok (.aload_n 0, 1) := by decide +kernel
theorem dX7_begin_11 : decode cX7_begin 11 = .ok (.iconst 0, 1) := by decide +kernel
theorem dX7_begin_12 : decode cX7_begin 12 = .ok (.putfield 18, 3) := by decide +kernel
theorem dX7_begin_15 : decode cX7_begin 15 = .ok (.aload_n 0, 1) := by decide +kernel
theorem dX7_begin_16 : decode cX7_begin 16 = .ok (.iconst 0, 1) := by decide +kernel
theorem dX7_begin_17 : decode cX7_begin 17 = .ok (.putfield 21, 3) := by decide +kernel
theorem dX7_begin_20 : decode cX7_begin 20 = .ok (.return_, 1) := by decide +kernel
theorem dX7_spinAnew_0 : decode cX7_spinAnew 0 = .ok (.aload_n 0, 1) := by decide +kernel
theorem dX7_spinAnew_1 : decode cX7_spinAnew 1 = .ok (.getfield 9, 3) := by decide +kernel
theorem dX7_spinAnew_4 : decode cX7_spinAnew 4 = .ok (.iconst 1, 1) := by decide +kernel
theorem dX7_spinAnew_5 : decode cX7_spinAnew 5 = .ok (.if_icmp .ne 24, 3) := by decide +kernel
theorem dX7_spinAnew_8 : decode cX7_spinAnew 8 = .ok (.aload_n 0, 1) := by decide +kernel
theorem dX7_spinAnew_9 : decode cX7_spinAnew 9 = .ok (.getfield 34, 3) := by decide +kernel
theorem dX7_spinAnew_12 : decode cX7_spinAnew 12 = .ok (.aload_n 0, 1) := by decide +kernel
theorem dX7_spinAnew_13 : decode cX7_spinAnew 13 = .ok (.getfield 18, 3) := by decide +kernel
theorem dX7_spinAnew_16 : decode cX7_spinAnew 16 = .ok (.invokevirtual 45, 3) := by decide +kernel
theorem dX7_spinAnew_19 : decode cX7_spinAnew 19 = .ok (.bipush 115, 2) := by decide +kernel
theorem dX7_spinAnew_21 : decode cX7_spinAnew 21 = .ok (.if_icmp .ne 8, 3) := by decide +kernel
theorem dX7_spinAnew_24 : decode cX7_spinAnew 24 = .ok (.aload_n 0, 1) := by decide +kernel
theorem dX7_spinAnew_25 : decode cX7_spinAnew 25 = .ok (.iconst 0, 1) := by decide +kernel
theorem dX7_spinAnew_26 : decode cX7_spinAnew 26 = .ok (.putfield 21, 3) := by decide +kernel
theorem dX7_spinAnew_29 : decode cX7_spinAnew 29 = .ok (.return_, 1) := by decide +kernel
theorem dX7_wantedHeat_0 : decode cX7_wantedHeat 0 = .ok (.aload_n 0, 1) := by decide +kernel
theorem dX7_wantedHeat_1 : decode cX7_wantedHeat 1 = .ok (.getfield 9, 3) := by decide +kernel
theorem dX7_wantedHeat_4 : decode cX7_wantedHeat 4 = .ok (.iconst 1, 1) := by decide +kernel
theorem dX7_wantedHeat_5 : decode cX7_wantedHeat 5 = .ok (.if_icmp .ne 19, 3) := by decide +kernel
theorem dX7_wantedHeat_8 : decode cX7_wantedHeat 8 = .ok (.aload_n 0, 1) := by decide +kernel
theorem dX7_wantedHeat_9 : decode cX7_wantedHeat 9 = .ok (.getfield 34, 3) := by decide +kernel
theorem dX7_wantedHeat_12 : decode cX7_wantedHeat 12 = .ok (.aload_n 0, 1) := by decide +kernel
theorem dX7_wantedHeat_13 : decode cX7_wantedHeat 13 = .ok (.getfield 18, 3) := by decide +kernel
theorem dX7_wantedHeat_16 : decode cX7_wantedHeat 16 = .ok (.invokevirtual 45, 3) := by decide +kernel
theorem dX7_wantedHeat_19 : decode cX7_wantedHeat 19 = .ok (.bipush 104, 2) := by decide +kernel
theorem dX7_wantedHeat_21 : decode cX7_wantedHeat 21 = .ok (.if_icmp .eq 5, 3) := by decide +kernel
theorem dX7_wantedHeat_24 : decode cX7_wantedHeat 24 = .ok (.iconst 0, 1) := by decide +kernel
theorem dX7_wantedHeat_25 : decode cX7_wantedHeat 25 = .ok (.ireturn, 1) := by decide +kernel
theorem dX7_wantedHeat_26 : decode cX7_wantedHeat 26 = .ok (.ldc2_w 38, 3) := by decide +kernel
theorem dX7_wantedHeat_29 : decode cX7_wantedHeat 29 = .ok (.aload_n 0, 1) := by decide +kernel
theorem dX7_wantedHeat_30 : decode cX7_wantedHeat 30 = .ok (.getfield 24, 3) := by decide +kernel
theorem dX7_wantedHeat_33 : decode cX7_wantedHeat 33 = .ok (.i2l, 1) := by decide +kernel
theorem dX7_wantedHeat_34 : decode cX7_wantedHeat 34 = .ok (.lmul, 1) := by decide +kernel
theorem dX7_wantedHeat_35 : decode cX7_wantedHeat 35 = .ok (.aload_n 0, 1) := by decide +kernel
theorem dX7_wantedHeat_36 : decode cX7_wantedHeat 36 = .ok (.getfield 34, 3) := by decide +kernel
theorem dX7_wantedHeat_39 : decode cX7_wantedHeat 39 = .ok (.aload_n 0, 1) := by decide +kernel
theorem dX7_wantedHeat_40 : decode cX7_wantedHeat 40 = .ok (.getfield 18, 3) := by decide +kernel
theorem dX7_wantedHeat_43 : decode cX7_wantedHeat 43 = .ok (.invokevirtual 49, 3) := by decide +kernel
theorem dX7_wantedHeat_46 : decode cX7_wantedHeat 46 = .ok (.i2l, 1) := by decide +kernel
theorem dX7_wantedHeat_47 : decode cX7_wantedHeat 47 = .ok (.lmul, 1) := by decide +kernel
theorem dX7_wantedHeat_48 : decode cX7_wantedHeat 48 = .ok (.aload_n 0, 1) := by decide +kernel
theorem dX7_wantedHeat_49 : decode cX7_wantedHeat 49 = .ok (.getfield 27, 3) := by decide +kernel
theorem dX7_wantedHeat_52 : decode cX7_wantedHeat 52 = .ok (.lsub, 1) := by decide +kernel
theorem dX7_wantedHeat_53 : decode cX7_wantedHeat 53 = .ok (.lstore_n 1, 1) := by decide +kernel
theorem dX7_wantedHeat_54 : decode cX7_wantedHeat 54 = .ok (.lconst 0, 1) := by decide +kernel
theorem dX7_wantedHeat_55 : decode cX7_wantedHeat 55 = .ok (.ldc2_w 53, 3) := by decide +kernel
theorem dX7_wantedHeat_58 : decode cX7_wantedHeat 58 = .ok (.lload_n 1, 1) := by decide +kernel
theorem dX7_wantedHeat_59 : decode cX7_wantedHeat 59 = .ok (.invokestatic 55, 3) := by decide +kernel
theorem dX7_wantedHeat_62 : decode cX7_wantedHeat 62 = .ok (.invokestatic 61, 3) := by decide +kernel
theorem dX7_wantedHeat_65 : decode cX7_wantedHeat 65 = .ok (.l2i, 1) := by decide +kernel
theorem dX7_wantedHeat_66 : decode cX7_wantedHeat 66 = .ok (.ireturn, 1) := by decide +kernel
theorem dX7_endsInMinute_0 : decode cX7_endsInMinute 0 = .ok (.aload_n 0, 1) := by decide +kernel
theorem dX7_endsInMinute_1 : decode cX7_endsInMinute 1 = .ok (.invokevirtual 64, 3) := by decide +kernel
theorem dX7_endsInMinute_4 : decode cX7_endsInMinute 4 = .ok (.ifCond .eq 10, 3) := by decide +kernel
theorem dX7_endsInMinute_7 : decode cX7_endsInMinute 7 = .ok (.aload_n 0, 1) := by decide +kernel
theorem dX7_endsInMinute_8 : decode cX7_endsInMinute 8 = .ok (.iconst 2, 1) := by decide +kernel
theorem dX7_endsInMinute_9 : decode cX7_endsInMinute 9 = .ok (.putfield 9, 3) := by decide +kernel
theorem dX7_endsInMinute_12 : decode cX7_endsInMinute 12 = .ok (.iconst 0, 1) := by decide +kernel
theorem dX7_endsInMinute_13 : decode cX7_endsInMinute 13 = .ok (.ireturn, 1) := by decide +kernel
theorem dX7_endsInMinute_14 : decode cX7_endsInMinute 14 = .ok (.aload_n 0, 1) := by decide +kernel
theorem dX7_endsInMinute_15 : decode cX7_endsInMinute 15 = .ok (.dup, 1) := by decide +kernel
theorem dX7_endsInMinute_16 : decode cX7_endsInMinute 16 = .ok (.getfield 21, 3) := by decide +kernel
theorem dX7_endsInMinute_19 : decode cX7_endsInMinute 19 = .ok (.iconst 1, 1) := by decide +kernel
theorem dX7_endsInMinute_20 : decode cX7_endsInMinute 20 = .ok (.iadd, 1) := by decide +kernel
theorem dX7_endsInMinute_21 : decode cX7_endsInMinute 21 = .ok (.putfield 21, 3) := by decide +kernel
theorem dX7_endsInMinute_24 : decode cX7_endsInMinute 24 = .ok (.aload_n 0, 1) := by decide +kernel
theorem dX7_endsInMinute_25 : decode cX7_endsInMinute 25 = .ok (.iload_n 1, 1) := by decide +kernel
theorem dX7_endsInMinute_26 : decode cX7_endsInMinute 26 = .ok (.invokevirtual 68, 3) := by decide +kernel
theorem dX7_endsInMinute_29 : decode cX7_endsInMinute 29 = .ok (.aload_n 0, 1) := by decide +kernel
theorem dX7_endsInMinute_30 : decode cX7_endsInMinute 30 = .ok (.invokevirtual 72, 3) := by decide +kernel
theorem dX7_endsInMinute_33 : decode cX7_endsInMinute 33 = .ok (.ifCond .ne 5, 3) := by decide +kernel
theorem dX7_endsInMinute_36 : decode cX7_endsInMinute 36 = .ok (.iconst 0, 1) := by decide +kernel
theorem dX7_endsInMinute_37 : decode cX7_endsInMinute 37 = .ok (.ireturn, 1) := by decide +kernel
theorem dX7_endsInMinute_38 : decode cX7_endsInMinute 38 = .ok (.aload_n 0, 1) := by decide +kernel
theorem dX7_endsInMinute_39 : decode cX7_endsInMinute 39 = .ok (.dup, 1) := by decide +kernel
theorem dX7_endsInMinute_40 : decode cX7_endsInMinute 40 = .ok (.getfield 18, 3) := by decide +kernel
theorem dX7_endsInMinute_43 : decode cX7_endsInMinute 43 = .ok (.iconst 1, 1) := by decide +kernel
theorem dX7_endsInMinute_44 : decode cX7_endsInMinute 44 = .ok (.iadd, 1) := by decide +kernel
theorem dX7_endsInMinute_45 : decode cX7_endsInMinute 45 = .ok (.putfield 18, 3) := by decide +kernel
theorem dX7_endsInMinute_48 : decode cX7_endsInMinute 48 = .ok (.aload_n 0, 1) := by decide +kernel
theorem dX7_endsInMinute_49 : decode cX7_endsInMinute 49 = .ok (.iconst 0, 1) := by decide +kernel
theorem dX7_endsInMinute_50 : decode cX7_endsInMinute 50 = .ok (.putfield 21, 3) := by decide +kernel
theorem dX7_endsInMinute_53 : decode cX7_endsInMinute 53 = .ok (.aload_n 0, 1) := by decide +kernel
theorem dX7_endsInMinute_54 : decode cX7_endsInMinute 54 = .ok (.getfield 18, 3) := by decide +kernel
theorem dX7_endsInMinute_57 : decode cX7_endsInMinute 57 = .ok (.aload_n 0, 1) := by decide +kernel
theorem dX7_endsInMinute_58 : decode cX7_endsInMinute 58 = .ok (.getfield 34, 3) := by decide +kernel
theorem dX7_endsInMinute_61 : decode cX7_endsInMinute 61 = .ok (.getfield 40, 3) := by decide +kernel
theorem dX7_endsInMinute_64 : decode cX7_endsInMinute 64 = .ok (.if_icmp .ge 5, 3) := by decide +kernel
theorem dX7_endsInMinute_67 : decode cX7_endsInMinute 67 = .ok (.iconst 0, 1) := by decide +kernel
theorem dX7_endsInMinute_68 : decode cX7_endsInMinute 68 = .ok (.ireturn, 1) := by decide +kernel
theorem dX7_endsInMinute_69 : decode cX7_endsInMinute 69 = .ok (.aload_n 0, 1) := by decide +kernel
theorem dX7_endsInMinute_70 : decode cX7_endsInMinute 70 = .ok (.iconst 0, 1) := by decide +kernel
theorem dX7_endsInMinute_71 : decode cX7_endsInMinute 71 = .ok (.putfield 9, 3) := by decide +kernel
theorem dX7_endsInMinute_74 : decode cX7_endsInMinute 74 = .ok (.iconst 1, 1) := by decide +kernel
theorem dX7_endsInMinute_75 : decode cX7_endsInMinute 75 = .ok (.ireturn, 1) := by decide +kernel
theorem dX7_cannotWork_0 : decode cX7_cannotWork 0 = .ok (.aload_n 0, 1) := by decide +kernel
theorem dX7_cannotWork_1 : decode cX7_cannotWork 1 = .ok (.getfield 34, 3) := by decide +kernel
theorem dX7_cannotWork_4 : decode cX7_cannotWork 4 = .ok (.aload_n 0, 1) := by decide +kernel
theorem dX7_cannotWork_5 : decode cX7_cannotWork 5 = .ok (.getfield 18, 3) := by decide +kernel
theorem dX7_cannotWork_8 : decode cX7_cannotWork 8 = .ok (.invokevirtual 45, 3) := by decide +kernel
theorem dX7_cannotWork_11 : decode cX7_cannotWork 11 = .ok (.istore_n 1, 1) := by decide +kernel
theorem dX7_cannotWork_12 : decode cX7_cannotWork 12 = .ok (.iload_n 1, 1) := by decide +kernel
theorem dX7_cannotWork_13 : decode cX7_cannotWork 13 = .ok (.bipush 104, 2) := by decide +kernel
theorem dX7_cannotWork_15 : decode cX7_cannotWork 15 = .ok (.if_icmp .ne 10, 3) := by decide +kernel
theorem dX7_cannotWork_18 : decode cX7_cannotWork 18 = .ok (.aload_n 0, 1) := by decide +kernel
theorem dX7_cannotWork_19 : decode cX7_cannotWork 19 = .ok (.getfield 24, 3) := by decide +kernel
theorem dX7_cannotWork_22 : decode cX7_cannotWork 22 = .ok (.ifCond .eq 16, 3) := by decide +kernel
theorem dX7_cannotWork_25 : decode cX7_cannotWork 25 = .ok (.iload_n 1, 1) := by decide +kernel
theorem dX7_cannotWork_26 : decode cX7_cannotWork 26 = .ok (.bipush 115, 2) := by decide +kernel
theorem dX7_cannotWork_28 : decode cX7_cannotWork 28 = .ok (.if_icmp .ne 14, 3) := by decide +kernel
theorem dX7_cannotWork_31 : decode cX7_cannotWork 31 = .ok (.aload_n 0, 1) := by decide +kernel
theorem dX7_cannotWork_32 : decode cX7_cannotWork 32 = .ok (.getfield 24, 3) := by decide +kernel
theorem dX7_cannotWork_35 : decode cX7_cannotWork 35 = .ok (.ifCond .le 7, 3) := by decide +kernel
theorem dX7_cannotWork_38 : decode cX7_cannotWork 38 = .ok (.iconst 1, 1) := by decide +kernel
theorem dX7_cannotWork_39 : decode cX7_cannotWork 39 = .ok (.goto 4, 3) := by decide +kernel
theorem dX7_cannotWork_42 : decode cX7_cannotWork 42 = .ok (.iconst 0, 1) := by decide +kernel
theorem dX7_cannotWork_43 : decode cX7_cannotWork 43 = .ok (.ireturn, 1) := by decide +kernel
theorem dX7_change_0 : decode cX7_change 0 = .ok (.aload_n 0, 1) := by decide +kernel
theorem dX7_change_1 : decode cX7_change 1 = .ok (.getfield 34, 3) := by decide +kernel
theorem dX7_change_4 : decode cX7_change 4 = .ok (.aload_n 0, 1) := by decide +kernel
theorem dX7_change_5 : decode cX7_change 5 = .ok (.getfield 18, 3) := by decide +kernel
theorem dX7_change_8 : decode cX7_change 8 = .ok (.invokevirtual 45, 3) := by decide +kernel
theorem dX7_change_11 : decode cX7_change 11 = .ok (.tableswitch 72 100 104 #[65, 72, 33, 72, 51], 33) := by decide +kernel
theorem dX7_change_44 : decode cX7_change 44 = .ok (.aload_n 0, 1) := by decide +kernel
theorem dX7_change_45 : decode cX7_change 45 = .ok (.aload_n 0, 1) := by decide +kernel
theorem dX7_change_46 : decode cX7_change 46 = .ok (.getfield 34, 3) := by decide +kernel
theorem dX7_change_49 : decode cX7_change 49 = .ok (.aload_n 0, 1) := by decide +kernel
theorem dX7_change_50 : decode cX7_change 50 = .ok (.getfield 18, 3) := by decide +kernel
theorem dX7_change_53 : decode cX7_change 53 = .ok (.invokevirtual 49, 3) := by decide +kernel
theorem dX7_change_56 : decode cX7_change 56 = .ok (.invokevirtual 75, 3) := by decide +kernel
theorem dX7_change_59 : decode cX7_change 59 = .ok (.goto 24, 3) := by decide +kernel
theorem dX7_change_62 : decode cX7_change 62 = .ok (.aload_n 0, 1) := by decide +kernel
theorem dX7_change_63 : decode cX7_change 63 = .ok (.dup, 1) := by decide +kernel
theorem dX7_change_64 : decode cX7_change 64 = .ok (.getfield 27, 3) := by decide +kernel
theorem dX7_change_67 : decode cX7_change 67 = .ok (.iload_n 1, 1) := by decide +kernel
theorem dX7_change_68 : decode cX7_change 68 = .ok (.i2l, 1) := by decide +kernel
theorem dX7_change_69 : decode cX7_change 69 = .ok (.ladd, 1) := by decide +kernel
theorem dX7_change_70 : decode cX7_change 70 = .ok (.putfield 27, 3) := by decide +kernel
theorem dX7_change_73 : decode cX7_change 73 = .ok (.goto 10, 3) := by decide +kernel
theorem dX7_change_76 : decode cX7_change 76 = .ok (.aload_n 0, 1) := by decide +kernel
theorem dX7_change_77 : decode cX7_change 77 = .ok (.invokevirtual 78, 3) := by decide +kernel
theorem dX7_change_80 : decode cX7_change 80 = .ok (.goto 3, 3) := by decide +kernel
theorem dX7_change_83 : decode cX7_change 83 = .ok (.return_, 1) := by decide +kernel
theorem dX7_pour_0 : decode cX7_pour 0 = .ok (.iload_n 1, 1) := by decide +kernel
theorem dX7_pour_1 : decode cX7_pour 1 = .ok (.bipush 6, 2) := by decide +kernel
theorem dX7_pour_3 : decode cX7_pour 3 = .ok (.aload_n 0, 1) := by decide +kernel
theorem dX7_pour_4 : decode cX7_pour 4 = .ok (.getfield 21, 3) := by decide +kernel
theorem dX7_pour_7 : decode cX7_pour 7 = .ok (.iconst 1, 1) := by decide +kernel
theorem dX7_pour_8 : decode cX7_pour 8 = .ok (.isub, 1) := by decide +kernel
theorem dX7_pour_9 : decode cX7_pour 9 = .ok (.imul, 1) := by decide +kernel
theorem dX7_pour_10 : decode cX7_pour 10 = .ok (.isub, 1) := by decide +kernel
theorem dX7_pour_11 : decode cX7_pour 11 = .ok (.istore_n 2, 1) := by decide +kernel
theorem dX7_pour_12 : decode cX7_pour 12 = .ok (.bipush 6, 2) := by decide +kernel
theorem dX7_pour_14 : decode cX7_pour 14 = .ok (.iload_n 2, 1) := by decide +kernel
theorem dX7_pour_15 : decode cX7_pour 15 = .ok (.invokestatic 81, 3) := by decide +kernel
theorem dX7_pour_18 : decode cX7_pour 18 = .ok (.istore_n 3, 1) := by decide +kernel
theorem dX7_pour_19 : decode cX7_pour 19 = .ok (.aload_n 0, 1) := by decide +kernel
theorem dX7_pour_20 : decode cX7_pour 20 = .ok (.dup, 1) := by decide +kernel
theorem dX7_pour_21 : decode cX7_pour 21 = .ok (.getfield 24, 3) := by decide +kernel
theorem dX7_pour_24 : decode cX7_pour 24 = .ok (.iload_n 3, 1) := by decide +kernel
theorem dX7_pour_25 : decode cX7_pour 25 = .ok (.iadd, 1) := by decide +kernel
theorem dX7_pour_26 : decode cX7_pour 26 = .ok (.putfield 24, 3) := by decide +kernel
theorem dX7_pour_29 : decode cX7_pour 29 = .ok (.aload_n 0, 1) := by decide +kernel
theorem dX7_pour_30 : decode cX7_pour 30 = .ok (.dup, 1) := by decide +kernel
theorem dX7_pour_31 : decode cX7_pour 31 = .ok (.getfield 31, 3) := by decide +kernel
theorem dX7_pour_34 : decode cX7_pour 34 = .ok (.iload_n 3, 1) := by decide +kernel
theorem dX7_pour_35 : decode cX7_pour 35 = .ok (.iadd, 1) := by decide +kernel
theorem dX7_pour_36 : decode cX7_pour 36 = .ok (.putfield 31, 3) := by decide +kernel
theorem dX7_pour_39 : decode cX7_pour 39 = .ok (.aload_n 0, 1) := by decide +kernel
theorem dX7_pour_40 : decode cX7_pour 40 = .ok (.dup, 1) := by decide +kernel
theorem dX7_pour_41 : decode cX7_pour 41 = .ok (.getfield 27, 3) := by decide +kernel
theorem dX7_pour_44 : decode cX7_pour 44 = .ok (.ldc2_w 84, 3) := by decide +kernel
theorem dX7_pour_47 : decode cX7_pour 47 = .ok (.iload_n 3, 1) := by decide +kernel
theorem dX7_pour_48 : decode cX7_pour 48 = .ok (.i2l, 1) := by decide +kernel
theorem dX7_pour_49 : decode cX7_pour 49 = .ok (.lmul, 1) := by decide +kernel
theorem dX7_pour_50 : decode cX7_pour 50 = .ok (.ladd, 1) := by decide +kernel
theorem dX7_pour_51 : decode cX7_pour 51 = .ok (.putfield 27, 3) := by decide +kernel
theorem dX7_pour_54 : decode cX7_pour 54 = .ok (.return_, 1) := by decide +kernel
theorem dX7_drain_0 : decode cX7_drain 0 = .ok (.iconst 0, 1) := by decide +kernel
theorem dX7_drain_1 : decode cX7_drain 1 = .ok (.aload_n 0, 1) := by decide +kernel
theorem dX7_drain_2 : decode cX7_drain 2 = .ok (.getfield 24, 3) := by decide +kernel
theorem dX7_drain_5 : decode cX7_drain 5 = .ok (.bipush 12, 2) := by decide +kernel
theorem dX7_drain_7 : decode cX7_drain 7 = .ok (.isub, 1) := by decide +kernel
theorem dX7_drain_8 : decode cX7_drain 8 = .ok (.invokestatic 86, 3) := by decide +kernel
theorem dX7_drain_11 : decode cX7_drain 11 = .ok (.istore_n 1, 1) := by decide +kernel
theorem dX7_drain_12 : decode cX7_drain 12 = .ok (.aload_n 0, 1) := by decide +kernel
theorem dX7_drain_13 : decode cX7_drain 13 = .ok (.aload_n 0, 1) := by decide +kernel
theorem dX7_drain_14 : decode cX7_drain 14 = .ok (.getfield 24, 3) := by decide +kernel
theorem dX7_drain_17 : decode cX7_drain 17 = .ok (.ifCond .le 19, 3) := by decide +kernel
theorem dX7_drain_20 : decode cX7_drain 20 = .ok (.aload_n 0, 1) := by decide +kernel
theorem dX7_drain_21 : decode cX7_drain 21 = .ok (.getfield 27, 3) := by decide +kernel
theorem dX7_drain_24 : decode cX7_drain 24 = .ok (.iload_n 1, 1) := by decide +kernel
theorem dX7_drain_25 : decode cX7_drain 25 = .ok (.i2l, 1) := by decide +kernel
theorem dX7_drain_26 : decode cX7_drain 26 = .ok (.lmul, 1) := by decide +kernel
theorem dX7_drain_27 : decode cX7_drain 27 = .ok (.aload_n 0, 1) := by decide +kernel
theorem dX7_drain_28 : decode cX7_drain 28 = .ok (.getfield 24, 3) := by decide +kernel
theorem dX7_drain_31 : decode cX7_drain 31 = .ok (.i2l, 1) := by decide +kernel
theorem dX7_drain_32 : decode cX7_drain 32 = .ok (.ldiv, 1) := by decide +kernel
theorem dX7_drain_33 : decode cX7_drain 33 = .ok (.goto 4, 3) := by decide +kernel
theorem dX7_drain_36 : decode cX7_drain 36 = .ok (.lconst 0, 1) := by decide +kernel
theorem dX7_drain_37 : decode cX7_drain 37 = .ok (.putfield 27, 3) := by decide +kernel
theorem dX7_drain_40 : decode cX7_drain 40 = .ok (.aload_n 0, 1) := by decide +kernel
theorem dX7_drain_41 : decode cX7_drain 41 = .ok (.iload_n 1, 1) := by decide +kernel
theorem dX7_drain_42 : decode cX7_drain 42 = .ok (.putfield 24, 3) := by decide +kernel
theorem dX7_drain_45 : decode cX7_drain 45 = .ok (.return_, 1) := by decide +kernel
theorem dX7_isPhaseOver_0 : decode cX7_isPhaseOver 0 = .ok (.aload_n 0, 1) := by decide +kernel
theorem dX7_isPhaseOver_1 : decode cX7_isPhaseOver 1 = .ok (.getfield 34, 3) := by decide +kernel
theorem dX7_isPhaseOver_4 : decode cX7_isPhaseOver 4 = .ok (.aload_n 0, 1) := by decide +kernel
theorem dX7_isPhaseOver_5 : decode cX7_isPhaseOver 5 = .ok (.getfield 18, 3) := by decide +kernel
theorem dX7_isPhaseOver_8 : decode cX7_isPhaseOver 8 = .ok (.invokevirtual 49, 3) := by decide +kernel
theorem dX7_isPhaseOver_11 : decode cX7_isPhaseOver 11 = .ok (.istore_n 1, 1) := by decide +kernel
theorem dX7_isPhaseOver_12 : decode cX7_isPhaseOver 12 = .ok (.aload_n 0, 1) := by decide +kernel
theorem dX7_isPhaseOver_13 : decode cX7_isPhaseOver 13 = .ok (.getfield 34, 3) := by decide +kernel
theorem dX7_isPhaseOver_16 : decode cX7_isPhaseOver 16 = .ok (.aload_n 0, 1) := by decide +kernel
theorem dX7_isPhaseOver_17 : decode cX7_isPhaseOver 17 = .ok (.getfield 18, 3) := by decide +kernel
theorem dX7_isPhaseOver_20 : decode cX7_isPhaseOver 20 = .ok (.invokevirtual 45, 3) := by decide +kernel
theorem dX7_isPhaseOver_23 : decode cX7_isPhaseOver 23 = .ok (.tableswitch 77 100 104 #[64, 77, 33, 77, 50], 33) := by decide +kernel
theorem dX7_isPhaseOver_56 : decode cX7_isPhaseOver 56 = .ok (.bipush 6, 2) := by decide +kernel
theorem dX7_isPhaseOver_58 : decode cX7_isPhaseOver 58 = .ok (.aload_n 0, 1) := by decide +kernel
theorem dX7_isPhaseOver_59 : decode cX7_isPhaseOver 59 = .ok (.getfield 21, 3) := by decide +kernel
theorem dX7_isPhaseOver_62 : decode cX7_isPhaseOver 62 = .ok (.imul, 1) := by decide +kernel
theorem dX7_isPhaseOver_63 : decode cX7_isPhaseOver 63 = .ok (.iload_n 1, 1) := by decide +kernel
theorem dX7_isPhaseOver_64 : decode cX7_isPhaseOver 64 = .ok (.if_icmp .lt 7, 3) := by decide +kernel
theorem dX7_isPhaseOver_67 : decode cX7_isPhaseOver 67 = .ok (.iconst 1, 1) := by decide +kernel
theorem dX7_isPhaseOver_68 : decode cX7_isPhaseOver 68 = .ok (.goto 4, 3) := by decide +kernel
theorem dX7_isPhaseOver_71 : decode cX7_isPhaseOver 71 = .ok (.iconst 0, 1) := by decide +kernel
theorem dX7_isPhaseOver_72 : decode cX7_isPhaseOver 72 = .ok (.ireturn, 1) := by decide +kernel
theorem dX7_isPhaseOver_73 : decode cX7_isPhaseOver 73 = .ok (.aload_n 0, 1) := by decide +kernel
theorem dX7_isPhaseOver_74 : decode cX7_isPhaseOver 74 = .ok (.invokevirtual 88, 3) := by decide +kernel
theorem dX7_isPhaseOver_77 : decode cX7_isPhaseOver 77 = .ok (.iload_n 1, 1) := by decide +kernel
theorem dX7_isPhaseOver_78 : decode cX7_isPhaseOver 78 = .ok (.if_icmp .lt 7, 3) := by decide +kernel
theorem dX7_isPhaseOver_81 : decode cX7_isPhaseOver 81 = .ok (.iconst 1, 1) := by decide +kernel
theorem dX7_isPhaseOver_82 : decode cX7_isPhaseOver 82 = .ok (.goto 4, 3) := by decide +kernel
theorem dX7_isPhaseOver_85 : decode cX7_isPhaseOver 85 = .ok (.iconst 0, 1) := by decide +kernel
theorem dX7_isPhaseOver_86 : decode cX7_isPhaseOver 86 = .ok (.ireturn, 1) := by decide +kernel
theorem dX7_isPhaseOver_87 : decode cX7_isPhaseOver 87 = .ok (.aload_n 0, 1) := by decide +kernel
theorem dX7_isPhaseOver_88 : decode cX7_isPhaseOver 88 = .ok (.getfield 24, 3) := by decide +kernel
theorem dX7_isPhaseOver_91 : decode cX7_isPhaseOver 91 = .ok (.ifCond .ne 7, 3) := by decide +kernel
theorem dX7_isPhaseOver_94 : decode cX7_isPhaseOver 94 = .ok (.iconst 1, 1) := by decide +kernel
theorem dX7_isPhaseOver_95 : decode cX7_isPhaseOver 95 = .ok (.goto 4, 3) := by decide +kernel
theorem dX7_isPhaseOver_98 : decode cX7_isPhaseOver 98 = .ok (.iconst 0, 1) := by decide +kernel
theorem dX7_isPhaseOver_99 : decode cX7_isPhaseOver 99 = .ok (.ireturn, 1) := by decide +kernel
theorem dX7_isPhaseOver_100 : decode cX7_isPhaseOver 100 = .ok (.aload_n 0, 1) := by decide +kernel
theorem dX7_isPhaseOver_101 : decode cX7_isPhaseOver 101 = .ok (.getfield 21, 3) := by decide +kernel
theorem dX7_isPhaseOver_104 : decode cX7_isPhaseOver 104 = .ok (.iload_n 1, 1) := by decide +kernel
theorem dX7_isPhaseOver_105 : decode cX7_isPhaseOver 105 = .ok (.if_icmp .lt 7, 3) := by decide +kernel
theorem dX7_isPhaseOver_108 : decode cX7_isPhaseOver 108 = .ok (.iconst 1, 1) := by decide +kernel
theorem dX7_isPhaseOver_109 : decode cX7_isPhaseOver 109 = .ok (.goto 4, 3) := by decide +kernel
theorem dX7_isPhaseOver_112 : decode cX7_isPhaseOver 112 = .ok (.iconst 0, 1) := by decide +kernel
theorem dX7_isPhaseOver_113 : decode cX7_isPhaseOver 113 = .ok (.ireturn, 1) := by decide +kernel
theorem dX7_cool_0 : decode cX7_cool 0 = .ok (.aload_n 0, 1) := by decide +kernel
theorem dX7_cool_1 : decode cX7_cool 1 = .ok (.invokevirtual 88, 3) := by decide +kernel
theorem dX7_cool_4 : decode cX7_cool 4 = .ok (.bipush 15, 2) := by decide +kernel
theorem dX7_cool_6 : decode cX7_cool 6 = .ok (.isub, 1) := by decide +kernel
theorem dX7_cool_7 : decode cX7_cool 7 = .ok (.istore_n 1, 1) := by decide +kernel
theorem dX7_cool_8 : decode cX7_cool 8 = .ok (.aload_n 0, 1) := by decide +kernel
theorem dX7_cool_9 : decode cX7_cool 9 = .ok (.getfield 24, 3) := by decide +kernel
theorem dX7_cool_12 : decode cX7_cool 12 = .ok (.ifCond .le 28, 3) := by decide +kernel
theorem dX7_cool_15 : decode cX7_cool 15 = .ok (.iload_n 1, 1) := by decide +kernel
theorem dX7_cool_16 : decode cX7_cool 16 = .ok (.ifCond .le 24, 3) := by decide +kernel
theorem dX7_cool_19 : decode cX7_cool 19 = .ok (.aload_n 0, 1) := by decide +kernel
theorem dX7_cool_20 : decode cX7_cool 20 = .ok (.dup, 1) := by decide +kernel
theorem dX7_cool_21 : decode cX7_cool 21 = .ok (.getfield 27, 3) := by decide +kernel
theorem dX7_cool_24 : decode cX7_cool 24 = .ok (.iload_n 1, 1) := by decide +kernel
theorem dX7_cool_25 : decode cX7_cool 25 = .ok (.i2l, 1) := by decide +kernel
theorem dX7_cool_26 : decode cX7_cool 26 = .ok (.aload_n 0, 1) := by decide +kernel
theorem dX7_cool_27 : decode cX7_cool 27 = .ok (.getfield 24, 3) := by decide +kernel
theorem dX7_cool_30 : decode cX7_cool 30 = .ok (.i2l, 1) := by decide +kernel
theorem dX7_cool_31 : decode cX7_cool 31 = .ok (.lmul, 1) := by decide +kernel
theorem dX7_cool_32 : decode cX7_cool 32 = .ok (.ldc2_w 92, 3) := by decide +kernel
theorem dX7_cool_35 : decode cX7_cool 35 = .ok (.ldiv, 1) := by decide +kernel
theorem dX7_cool_36 : decode cX7_cool 36 = .ok (.lsub, 1) := by decide +kernel
theorem dX7_cool_37 : decode cX7_cool 37 = .ok (.putfield 27, 3) := by decide +kernel
theorem dX7_cool_40 : decode cX7_cool 40 = .ok (.return_, 1) := by decide +kernel
theorem dX7_unlockIfSafe_0 : decode cX7_unlockIfSafe 0 = .ok (.aload_n 0, 1) := by decide +kernel
theorem dX7_unlockIfSafe_1 : decode cX7_unlockIfSafe 1 = .ok (.getfield 15, 3) := by decide +kernel
theorem dX7_unlockIfSafe_4 : decode cX7_unlockIfSafe 4 = .ok (.iconst 2, 1) := by decide +kernel
theorem dX7_unlockIfSafe_5 : decode cX7_unlockIfSafe 5 = .ok (.if_icmp .ne 24, 3) := by decide +kernel
theorem dX7_unlockIfSafe_8 : decode cX7_unlockIfSafe 8 = .ok (.aload_n 0, 1) := by decide +kernel
theorem dX7_unlockIfSafe_9 : decode cX7_unlockIfSafe 9 = .ok (.getfield 9, 3) := by decide +kernel
theorem dX7_unlockIfSafe_12 : decode cX7_unlockIfSafe 12 = .ok (.iconst 1, 1) := by decide +kernel
theorem dX7_unlockIfSafe_13 : decode cX7_unlockIfSafe 13 = .ok (.if_icmp .eq 16, 3) := by decide +kernel
theorem dX7_unlockIfSafe_16 : decode cX7_unlockIfSafe 16 = .ok (.aload_n 0, 1) := by decide +kernel
theorem dX7_unlockIfSafe_17 : decode cX7_unlockIfSafe 17 = .ok (.invokevirtual 88, 3) := by decide +kernel
theorem dX7_unlockIfSafe_20 : decode cX7_unlockIfSafe 20 = .ok (.iload_n 1, 1) := by decide +kernel
theorem dX7_unlockIfSafe_21 : decode cX7_unlockIfSafe 21 = .ok (.if_icmp .gt 8, 3) := by decide +kernel
theorem dX7_unlockIfSafe_24 : decode cX7_unlockIfSafe 24 = .ok (.aload_n 0, 1) := by decide +kernel
theorem dX7_unlockIfSafe_25 : decode cX7_unlockIfSafe 25 = .ok (.iconst 1, 1) := by decide +kernel
theorem dX7_unlockIfSafe_26 : decode cX7_unlockIfSafe 26 = .ok (.putfield 15, 3) := by decide +kernel
theorem dX7_unlockIfSafe_29 : decode cX7_unlockIfSafe 29 = .ok (.return_, 1) := by decide +kernel
theorem dX7_tell_0 : decode cX7_tell 0 = .ok (.iload_n 1, 1) := by decide +kernel
theorem dX7_tell_1 : decode cX7_tell 1 = .ok (.tableswitch 124 0 8 #[51, 56, 73, 78, 83, 89, 94, 111, 119], 51) := by decide +kernel
theorem dX7_tell_52 : decode cX7_tell 52 = .ok (.aload_n 0, 1) := by decide +kernel
theorem dX7_tell_53 : decode cX7_tell 53 = .ok (.getfield 9, 3) := by decide +kernel
theorem dX7_tell_56 : decode cX7_tell 56 = .ok (.ireturn, 1) := by decide +kernel
theorem dX7_tell_57 : decode cX7_tell 57 = .ok (.aload_n 0, 1) := by decide +kernel
theorem dX7_tell_58 : decode cX7_tell 58 = .ok (.getfield 9, 3) := by decide +kernel
end
section
theorem dX7_tell_61 : decode cX7_tell 61 = .ok (.ifCond .ne 8, 3) := by decide +kernel
theorem dX7_tell_64 : decode cX7_tell 64 = .ok (.bipush (-5), 2) := by decide +kernel
theorem dX7_tell_66 : decode cX7_tell 66 = .ok (.goto 7, 3) := by decide +kernel
theorem dX7_tell_69 : decode cX7_tell 69 = .ok (.aload_n 0, 1) := by decide +kernel
theorem dX7_tell_70 : decode cX7_tell 70 = .ok (.getfield 18, 3) := by decide +kernel
theorem dX7_tell_73 : decode cX7_tell 73 = .ok (.ireturn, 1) := by decide +kernel
theorem dX7_tell_74 : decode cX7_tell 74 = .ok (.aload_n 0, 1) := by decide +kernel
theorem dX7_tell_75 : decode cX7_tell 75 = .ok (.getfield 24, 3) := by decide +kernel
theorem dX7_tell_78 : decode cX7_tell 78 = .ok (.ireturn, 1) := by decide +kernel
theorem dX7_tell_79 : decode cX7_tell 79 = .ok (.aload_n 0, 1) := by decide +kernel
theorem dX7_tell_80 : decode cX7_tell 80 = .ok (.invokevirtual 88, 3) := by decide +kernel
theorem dX7_tell_83 : decode cX7_tell 83 = .ok (.ireturn, 1) := by decide +kernel
theorem dX7_tell_84 : decode cX7_tell 84 = .ok (.aload_n 0, 1) := by decide +kernel
theorem dX7_tell_85 : decode cX7_tell 85 = .ok (.getfield 27, 3) := by decide +kernel
theorem dX7_tell_88 : decode cX7_tell 88 = .ok (.l2i, 1) := by decide +kernel
theorem dX7_tell_89 : decode cX7_tell 89 = .ok (.ireturn, 1) := by decide +kernel
theorem dX7_tell_90 : decode cX7_tell 90 = .ok (.aload_n 0, 1) := by decide +kernel
theorem dX7_tell_91 : decode cX7_tell 91 = .ok (.getfield 15, 3) := by decide +kernel
theorem dX7_tell_94 : decode cX7_tell 94 = .ok (.ireturn, 1) := by decide +kernel
theorem dX7_tell_95 : decode cX7_tell 95 = .ok (.aload_n 0, 1) := by decide +kernel
theorem dX7_tell_96 : decode cX7_tell 96 = .ok (.getfield 9, 3) := by decide +kernel
theorem dX7_tell_99 : decode cX7_tell 99 = .ok (.ifCond .ne 8, 3) := by decide +kernel
theorem dX7_tell_102 : decode cX7_tell 102 = .ok (.bipush (-5), 2) := by decide +kernel
theorem dX7_tell_104 : decode cX7_tell 104 = .ok (.goto 7, 3) := by decide +kernel
theorem dX7_tell_107 : decode cX7_tell 107 = .ok (.aload_n 0, 1) := by decide +kernel
theorem dX7_tell_108 : decode cX7_tell 108 = .ok (.getfield 21, 3) := by decide +kernel
theorem dX7_tell_111 : decode cX7_tell 111 = .ok (.ireturn, 1) := by decide +kernel
theorem dX7_tell_112 : decode cX7_tell 112 = .ok (.aload_n 0, 1) := by decide +kernel
theorem dX7_tell_113 : decode cX7_tell 113 = .ok (.getfield 34, 3) := by decide +kernel
theorem dX7_tell_116 : decode cX7_tell 116 = .ok (.getfield 40, 3) := by decide +kernel
theorem dX7_tell_119 : decode cX7_tell 119 = .ok (.ireturn, 1) := by decide +kernel
theorem dX7_tell_120 : decode cX7_tell 120 = .ok (.aload_n 0, 1) := by decide +kernel
theorem dX7_tell_121 : decode cX7_tell 121 = .ok (.getfield 31, 3) := by decide +kernel
theorem dX7_tell_124 : decode cX7_tell 124 = .ok (.ireturn, 1) := by decide +kernel
theorem dX7_tell_125 : decode cX7_tell 125 = .ok (.bipush (-2), 2) := by decide +kernel
theorem dX7_tell_127 : decode cX7_tell 127 = .ok (.ireturn, 1) := by decide +kernel
theorem dX8_init_0 : decode cX8_init 0 = .ok (.aload_n 0, 1) := by decide +kernel
theorem dX8_init_1 : decode cX8_init 1 = .ok (.invokespecial 1, 3) := by decide +kernel
theorem dX8_init_4 : decode cX8_init 4 = .ok (.aload_n 0, 1) := by decide +kernel
theorem dX8_init_5 : decode cX8_init 5 = .ok (.new 7, 3) := by decide +kernel
theorem dX8_init_8 : decode cX8_init 8 = .ok (.dup, 1) := by decide +kernel
theorem dX8_init_9 : decode cX8_init 9 = .ok (.invokespecial 9, 3) := by decide +kernel
theorem dX8_init_12 : decode cX8_init 12 = .ok (.putfield 10, 3) := by decide +kernel
theorem dX8_init_15 : decode cX8_init 15 = .ok (.aload_n 0, 1) := by decide +kernel
theorem dX8_init_16 : decode cX8_init 16 = .ok (.new 7, 3) := by decide +kernel
theorem dX8_init_19 : decode cX8_init 19 = .ok (.dup, 1) := by decide +kernel
theorem dX8_init_20 : decode cX8_init 20 = .ok (.invokespecial 9, 3) := by decide +kernel
theorem dX8_init_23 : decode cX8_init 23 = .ok (.putfield 16, 3) := by decide +kernel
theorem dX8_init_26 : decode cX8_init 26 = .ok (.aload_n 0, 1) := by decide +kernel
theorem dX8_init_27 : decode cX8_init 27 = .ok (.new 7, 3) := by decide +kernel
theorem dX8_init_30 : decode cX8_init 30 = .ok (.dup, 1) := by decide +kernel
theorem dX8_init_31 : decode cX8_init 31 = .ok (.invokespecial 9, 3) := by decide +kernel
theorem dX8_init_34 : decode cX8_init 34 = .ok (.putfield 19, 3) := by decide +kernel
theorem dX8_init_37 : decode cX8_init 37 = .ok (.aload_n 0, 1) := by decide +kernel
theorem dX8_init_38 : decode cX8_init 38 = .ok (.new 22, 3) := by decide +kernel
theorem dX8_init_41 : decode cX8_init 41 = .ok (.dup, 1) := by decide +kernel
theorem dX8_init_42 : decode cX8_init 42 = .ok (.invokespecial 24, 3) := by decide +kernel
theorem dX8_init_45 : decode cX8_init 45 = .ok (.putfield 25, 3) := by decide +kernel
theorem dX8_init_48 : decode cX8_init 48 = .ok (.aload_n 0, 1) := by decide +kernel
theorem dX8_init_49 : decode cX8_init 49 = .ok (.new 29, 3) := by decide +kernel
theorem dX8_init_52 : decode cX8_init 52 = .ok (.dup, 1) := by decide +kernel
theorem dX8_init_53 : decode cX8_init 53 = .ok (.invokespecial 31, 3) := by decide +kernel
theorem dX8_init_56 : decode cX8_init 56 = .ok (.putfield 32, 3) := by decide +kernel
theorem dX8_init_59 : decode cX8_init 59 = .ok (.aload_n 0, 1) := by decide +kernel
theorem dX8_init_60 : decode cX8_init 60 = .ok (.new 36, 3) := by decide +kernel
theorem dX8_init_63 : decode cX8_init 63 = .ok (.dup, 1) := by decide +kernel
theorem dX8_init_64 : decode cX8_init 64 = .ok (.invokespecial 38, 3) := by decide +kernel
theorem dX8_init_67 : decode cX8_init 67 = .ok (.putfield 39, 3) := by decide +kernel
theorem dX8_init_70 : decode cX8_init 70 = .ok (.aload_n 0, 1) := by decide +kernel
theorem dX8_init_71 : decode cX8_init 71 = .ok (.iconst 0, 1) := by decide +kernel
theorem dX8_init_72 : decode cX8_init 72 = .ok (.putfield 43, 3) := by decide +kernel
theorem dX8_init_75 : decode cX8_init 75 = .ok (.return_, 1) := by decide +kernel
theorem dX8_addHouse_0 : decode cX8_addHouse 0 = .ok (.iload_n 1, 1) := by decide +kernel
theorem dX8_addHouse_1 : decode cX8_addHouse 1 = .ok (.iconst 1, 1) := by decide +kernel
theorem dX8_addHouse_2 : decode cX8_addHouse 2 = .ok (.bipush 20, 2) := by decide +kernel
theorem dX8_addHouse_4 : decode cX8_addHouse 4 = .ok (.invokestatic 47, 3) := by decide +kernel
theorem dX8_addHouse_7 : decode cX8_addHouse 7 = .ok (.ifCond .eq 24, 3) := by decide +kernel
theorem dX8_addHouse_10 : decode cX8_addHouse 10 = .ok (.iload_n 2, 1) := by decide +kernel
theorem dX8_addHouse_11 : decode cX8_addHouse 11 = .ok (.iconst 1, 1) := by decide +kernel
theorem dX8_addHouse_12 : decode cX8_addHouse 12 = .ok (.bipush 50, 2) := by decide +kernel
theorem dX8_addHouse_14 : decode cX8_addHouse 14 = .ok (.invokestatic 47, 3) := by decide +kernel
theorem dX8_addHouse_17 : decode cX8_addHouse 17 = .ok (.ifCond .eq 14, 3) := by decide +kernel
theorem dX8_addHouse_20 : decode cX8_addHouse 20 = .ok (.iload_n 3, 1) := by decide +kernel
theorem dX8_addHouse_21 : decode cX8_addHouse 21 = .ok (.iconst 0, 1) := by decide +kernel
theorem dX8_addHouse_22 : decode cX8_addHouse 22 = .ok (.sipush 9999, 3) := by decide +kernel
theorem dX8_addHouse_25 : decode cX8_addHouse 25 = .ok (.invokestatic 47, 3) := by decide +kernel
theorem dX8_addHouse_28 : decode cX8_addHouse 28 = .ok (.ifCond .ne 6, 3) := by decide +kernel
theorem dX8_addHouse_31 : decode cX8_addHouse 31 = .ok (.bipush (-2), 2) := by decide +kernel
theorem dX8_addHouse_33 : decode cX8_addHouse 33 = .ok (.ireturn, 1) := by decide +kernel
theorem dX8_addHouse_34 : decode cX8_addHouse 34 = .ok (.aload_n 0, 1) := by decide +kernel
theorem dX8_addHouse_35 : decode cX8_addHouse 35 = .ok (.getfield 10, 3) := by decide +kernel
theorem dX8_addHouse_38 : decode cX8_addHouse 38 = .ok (.getfield 51, 3) := by decide +kernel
theorem dX8_addHouse_41 : decode cX8_addHouse 41 = .ok (.bipush 8, 2) := by decide +kernel
theorem dX8_addHouse_43 : decode cX8_addHouse 43 = .ok (.if_icmp .lt 6, 3) := by decide +kernel
theorem dX8_addHouse_46 : decode cX8_addHouse 46 = .ok (.bipush (-3), 2) := by decide +kernel
theorem dX8_addHouse_48 : decode cX8_addHouse 48 = .ok (.ireturn, 1) := by decide +kernel
theorem dX8_addHouse_49 : decode cX8_addHouse 49 = .ok (.aload_n 0, 1) := by decide +kernel
theorem dX8_addHouse_50 : decode cX8_addHouse 50 = .ok (.getfield 25, 3) := by decide +kernel
theorem dX8_addHouse_53 : decode cX8_addHouse 53 = .ok (.aload_n 0, 1) := by decide +kernel
theorem dX8_addHouse_54 : decode cX8_addHouse 54 = .ok (.getfield 10, 3) := by decide +kernel
theorem dX8_addHouse_57 : decode cX8_addHouse 57 = .ok (.invokevirtual 55, 3) := by decide +kernel
theorem dX8_addHouse_60 : decode cX8_addHouse 60 = .ok (.aload_n 0, 1) := by decide +kernel
theorem dX8_addHouse_61 : decode cX8_addHouse 61 = .ok (.getfield 10, 3) := by decide +kernel
theorem dX8_addHouse_64 : decode cX8_addHouse 64 = .ok (.iload_n 1, 1) := by decide +kernel
theorem dX8_addHouse_65 : decode cX8_addHouse 65 = .ok (.iload_n 2, 1) := by decide +kernel
theorem dX8_addHouse_66 : decode cX8_addHouse 66 = .ok (.iload_n 3, 1) := by decide +kernel
theorem dX8_addHouse_67 : decode cX8_addHouse 67 = .ok (.invokevirtual 59, 3) := by decide +kernel
theorem dX8_addHouse_70 : decode cX8_addHouse 70 = .ok (.ireturn, 1) := by decide +kernel
theorem dX8_set_0 : decode cX8_set 0 = .ok (.iload_n 1, 1) := by decide +kernel
theorem dX8_set_1 : decode cX8_set 1 = .ok (.iconst 0, 1) := by decide +kernel
theorem dX8_set_2 : decode cX8_set 2 = .ok (.iconst 3, 1) := by decide +kernel
theorem dX8_set_3 : decode cX8_set 3 = .ok (.invokestatic 47, 3) := by decide +kernel
theorem dX8_set_6 : decode cX8_set 6 = .ok (.ifCond .eq 20, 3) := by decide +kernel
theorem dX8_set_9 : decode cX8_set 9 = .ok (.iload_n 2, 1) := by decide +kernel
theorem dX8_set_10 : decode cX8_set 10 = .ok (.getstatic 63, 3) := by decide +kernel
theorem dX8_set_13 : decode cX8_set 13 = .ok (.iload_n 1, 1) := by decide +kernel
theorem dX8_set_14 : decode cX8_set 14 = .ok (.iaload, 1) := by decide +kernel
theorem dX8_set_15 : decode cX8_set 15 = .ok (.getstatic 67, 3) := by decide +kernel
theorem dX8_set_18 : decode cX8_set 18 = .ok (.iload_n 1, 1) := by decide +kernel
theorem dX8_set_19 : decode cX8_set 19 = .ok (.iaload, 1) := by decide +kernel
theorem dX8_set_20 : decode cX8_set 20 = .ok (.invokestatic 47, 3) := by decide +kernel
theorem dX8_set_23 : decode cX8_set 23 = .ok (.ifCond .ne 6, 3) := by decide +kernel
theorem dX8_set_26 : decode cX8_set 26 = .ok (.bipush (-2), 2) := by decide +kernel
theorem dX8_set_28 : decode cX8_set 28 = .ok (.ireturn, 1) := by decide +kernel
theorem dX8_set_29 : decode cX8_set 29 = .ok (.iload_n 1, 1) := by decide +kernel
theorem dX8_set_30 : decode cX8_set 30 = .ok (.ifCond .ne 14, 3) := by decide +kernel
theorem dX8_set_33 : decode cX8_set 33 = .ok (.aload_n 0, 1) := by decide +kernel
theorem dX8_set_34 : decode cX8_set 34 = .ok (.getfield 10, 3) := by decide +kernel
theorem dX8_set_37 : decode cX8_set 37 = .ok (.getfield 70, 3) := by decide +kernel
theorem dX8_set_40 : decode cX8_set 40 = .ok (.iload_n 2, 1) := by decide +kernel
theorem dX8_set_41 : decode cX8_set 41 = .ok (.if_icmp .gt 19, 3) := by decide +kernel
theorem dX8_set_44 : decode cX8_set 44 = .ok (.iload_n 1, 1) := by decide +kernel
theorem dX8_set_45 : decode cX8_set 45 = .ok (.iconst 3, 1) := by decide +kernel
theorem dX8_set_46 : decode cX8_set 46 = .ok (.if_icmp .ne 17, 3) := by decide +kernel
theorem dX8_set_49 : decode cX8_set 49 = .ok (.aload_n 0, 1) := by decide +kernel
theorem dX8_set_50 : decode cX8_set 50 = .ok (.getfield 10, 3) := by decide +kernel
theorem dX8_set_53 : decode cX8_set 53 = .ok (.iload_n 2, 1) := by decide +kernel
theorem dX8_set_54 : decode cX8_set 54 = .ok (.invokevirtual 73, 3) := by decide +kernel
theorem dX8_set_57 : decode cX8_set 57 = .ok (.ifCond .eq 6, 3) := by decide +kernel
theorem dX8_set_60 : decode cX8_set 60 = .ok (.bipush (-4), 2) := by decide +kernel
theorem dX8_set_62 : decode cX8_set 62 = .ok (.ireturn, 1) := by decide +kernel
theorem dX8_set_63 : decode cX8_set 63 = .ok (.aload_n 0, 1) := by decide +kernel
theorem dX8_set_64 : decode cX8_set 64 = .ok (.getfield 10, 3) := by decide +kernel
theorem dX8_set_67 : decode cX8_set 67 = .ok (.getfield 77, 3) := by decide +kernel
theorem dX8_set_70 : decode cX8_set 70 = .ok (.iload_n 1, 1) := by decide +kernel
theorem dX8_set_71 : decode cX8_set 71 = .ok (.iaload, 1) := by decide +kernel
theorem dX8_set_72 : decode cX8_set 72 = .ok (.istore_n 3, 1) := by decide +kernel
theorem dX8_set_73 : decode cX8_set 73 = .ok (.iload_n 3, 1) := by decide +kernel
theorem dX8_set_74 : decode cX8_set 74 = .ok (.iload_n 2, 1) := by decide +kernel
theorem dX8_set_75 : decode cX8_set 75 = .ok (.if_icmp .ne 6, 3) := by decide +kernel
theorem dX8_set_78 : decode cX8_set 78 = .ok (.bipush (-5), 2) := by decide +kernel
theorem dX8_set_80 : decode cX8_set 80 = .ok (.ireturn, 1) := by decide +kernel
theorem dX8_set_81 : decode cX8_set 81 = .ok (.aload_n 0, 1) := by decide +kernel
theorem dX8_set_82 : decode cX8_set 82 = .ok (.getfield 25, 3) := by decide +kernel
theorem dX8_set_85 : decode cX8_set 85 = .ok (.aload_n 0, 1) := by decide +kernel
theorem dX8_set_86 : decode cX8_set 86 = .ok (.getfield 10, 3) := by decide +kernel
theorem dX8_set_89 : decode cX8_set 89 = .ok (.invokevirtual 55, 3) := by decide +kernel
theorem dX8_set_92 : decode cX8_set 92 = .ok (.aload_n 0, 1) := by decide +kernel
theorem dX8_set_93 : decode cX8_set 93 = .ok (.getfield 10, 3) := by decide +kernel
theorem dX8_set_96 : decode cX8_set 96 = .ok (.getfield 77, 3) := by decide +kernel
theorem dX8_set_99 : decode cX8_set 99 = .ok (.iload_n 1, 1) := by decide +kernel
theorem dX8_set_100 : decode cX8_set 100 = .ok (.iload_n 2, 1) := by decide +kernel
theorem dX8_set_101 : decode cX8_set 101 = .ok (.iastore, 1) := by decide +kernel
theorem dX8_set_102 : decode cX8_set 102 = .ok (.iload_n 3, 1) := by decide +kernel
theorem dX8_set_103 : decode cX8_set 103 = .ok (.ireturn, 1) := by decide +kernel
theorem dX8_power_0 : decode cX8_power 0 = .ok (.aload_n 0, 1) := by decide +kernel
theorem dX8_power_1 : decode cX8_power 1 = .ok (.getfield 10, 3) := by decide +kernel
theorem dX8_power_4 : decode cX8_power 4 = .ok (.getfield 80, 3) := by decide +kernel
theorem dX8_power_7 : decode cX8_power 7 = .ok (.iload_n 1, 1) := by decide +kernel
theorem dX8_power_8 : decode cX8_power 8 = .ok (.if_icmp .ne 6, 3) := by decide +kernel
theorem dX8_power_11 : decode cX8_power 11 = .ok (.bipush (-5), 2) := by decide +kernel
theorem dX8_power_13 : decode cX8_power 13 = .ok (.ireturn, 1) := by decide +kernel
theorem dX8_power_14 : decode cX8_power 14 = .ok (.aload_n 0, 1) := by decide +kernel
theorem dX8_power_15 : decode cX8_power 15 = .ok (.getfield 25, 3) := by decide +kernel
theorem dX8_power_18 : decode cX8_power 18 = .ok (.aload_n 0, 1) := by decide +kernel
theorem dX8_power_19 : decode cX8_power 19 = .ok (.getfield 10, 3) := by decide +kernel
theorem dX8_power_22 : decode cX8_power 22 = .ok (.invokevirtual 55, 3) := by decide +kernel
theorem dX8_power_25 : decode cX8_power 25 = .ok (.aload_n 0, 1) := by decide +kernel
theorem dX8_power_26 : decode cX8_power 26 = .ok (.getfield 10, 3) := by decide +kernel
theorem dX8_power_29 : decode cX8_power 29 = .ok (.iload_n 1, 1) := by decide +kernel
theorem dX8_power_30 : decode cX8_power 30 = .ok (.invokevirtual 83, 3) := by decide +kernel
theorem dX8_power_33 : decode cX8_power 33 = .ok (.aload_n 0, 1) := by decide +kernel
theorem dX8_power_34 : decode cX8_power 34 = .ok (.getfield 10, 3) := by decide +kernel
theorem dX8_power_37 : decode cX8_power 37 = .ok (.iconst 1, 1) := by decide +kernel
theorem dX8_power_38 : decode cX8_power 38 = .ok (.invokevirtual 87, 3) := by decide +kernel
theorem dX8_power_41 : decode cX8_power 41 = .ok (.ireturn, 1) := by decide +kernel
theorem dX8_pass_0 : decode cX8_pass 0 = .ok (.iload_n 1, 1) := by decide +kernel
theorem dX8_pass_1 : decode cX8_pass 1 = .ok (.iconst 1, 1) := by decide +kernel
theorem dX8_pass_2 : decode cX8_pass 2 = .ok (.bipush 60, 2) := by decide +kernel
theorem dX8_pass_4 : decode cX8_pass 4 = .ok (.invokestatic 47, 3) := by decide +kernel
theorem dX8_pass_7 : decode cX8_pass 7 = .ok (.ifCond .ne 6, 3) := by decide +kernel
theorem dX8_pass_10 : decode cX8_pass 10 = .ok (.bipush (-2), 2) := by decide +kernel
theorem dX8_pass_12 : decode cX8_pass 12 = .ok (.ireturn, 1) := by decide +kernel
theorem dX8_pass_13 : decode cX8_pass 13 = .ok (.aload_n 0, 1) := by decide +kernel
theorem dX8_pass_14 : decode cX8_pass 14 = .ok (.getfield 25, 3) := by decide +kernel
theorem dX8_pass_17 : decode cX8_pass 17 = .ok (.aload_n 0, 1) := by decide +kernel
theorem dX8_pass_18 : decode cX8_pass 18 = .ok (.getfield 10, 3) := by decide +kernel
theorem dX8_pass_21 : decode cX8_pass 21 = .ok (.invokevirtual 55, 3) := by decide +kernel
theorem dX8_pass_24 : decode cX8_pass 24 = .ok (.iconst 0, 1) := by decide +kernel
theorem dX8_pass_25 : decode cX8_pass 25 = .ok (.istore_n 2, 1) := by decide +kernel
theorem dX8_pass_26 : decode cX8_pass 26 = .ok (.iconst 0, 1) := by decide +kernel
theorem dX8_pass_27 : decode cX8_pass 27 = .ok (.istore_n 3, 1) := by decide +kernel
theorem dX8_pass_28 : decode cX8_pass 28 = .ok (.iload_n 3, 1) := by decide +kernel
theorem dX8_pass_29 : decode cX8_pass 29 = .ok (.iload_n 1, 1) := by decide +kernel
theorem dX8_pass_30 : decode cX8_pass 30 = .ok (.if_icmp .ge 23, 3) := by decide +kernel
theorem dX8_pass_33 : decode cX8_pass 33 = .ok (.iload_n 2, 1) := by decide +kernel
theorem dX8_pass_34 : decode cX8_pass 34 = .ok (.aload_n 0, 1) := by decide +kernel
theorem dX8_pass_35 : decode cX8_pass 35 = .ok (.getfield 10, 3) := by decide +kernel
theorem dX8_pass_38 : decode cX8_pass 38 = .ok (.aload_n 0, 1) := by decide +kernel
theorem dX8_pass_39 : decode cX8_pass 39 = .ok (.getfield 32, 3) := by decide +kernel
theorem dX8_pass_42 : decode cX8_pass 42 = .ok (.invokevirtual 91, 3) := by decide +kernel
theorem dX8_pass_45 : decode cX8_pass 45 = .ok (.iadd, 1) := by decide +kernel
theorem dX8_pass_46 : decode cX8_pass 46 = .ok (.istore_n 2, 1) := by decide +kernel
theorem dX8_pass_47 : decode cX8_pass 47 = .ok (.iinc 3 1, 3) := by decide +kernel
theorem dX8_pass_50 : decode cX8_pass 50 = .ok (.goto (-22), 3) := by decide +kernel
theorem dX8_pass_53 : decode cX8_pass 53 = .ok (.iload_n 2, 1) := by decide +kernel
theorem dX8_pass_54 : decode cX8_pass 54 = .ok (.ireturn, 1) := by decide +kernel
theorem dX8_type_0 : decode cX8_type 0 = .ok (.aload_n 0, 1) := by decide +kernel
theorem dX8_type_1 : decode cX8_type 1 = .ok (.getfield 39, 3) := by decide +kernel
theorem dX8_type_4 : decode cX8_type 4 = .ok (.iload_n 1, 1) := by decide +kernel
theorem dX8_type_5 : decode cX8_type 5 = .ok (.invokevirtual 95, 3) := by decide +kernel
theorem dX8_type_8 : decode cX8_type 8 = .ok (.ifCond .eq 13, 3) := by decide +kernel
theorem dX8_type_11 : decode cX8_type 11 = .ok (.aload_n 0, 1) := by decide +kernel
theorem dX8_type_12 : decode cX8_type 12 = .ok (.getfield 39, 3) := by decide +kernel
theorem dX8_type_15 : decode cX8_type 15 = .ok (.getfield 99, 3) := by decide +kernel
theorem dX8_type_18 : decode cX8_type 18 = .ok (.goto 5, 3) := by decide +kernel
theorem dX8_type_21 : decode cX8_type 21 = .ok (.bipush (-3), 2) := by decide +kernel
theorem dX8_type_23 : decode cX8_type 23 = .ok (.ireturn, 1) := by decide +kernel
theorem dX8_clearText_0 : decode cX8_clearText 0 = .ok (.aload_n 0, 1) := by decide +kernel
theorem dX8_clearText_1 : decode cX8_clearText 1 = .ok (.getfield 39, 3) := by decide +kernel
theorem dX8_clearText_4 : decode cX8_clearText 4 = .ok (.getfield 99, 3) := by decide +kernel
theorem dX8_clearText_7 : decode cX8_clearText 7 = .ok (.istore_n 1, 1) := by decide +kernel
theorem dX8_clearText_8 : decode cX8_clearText 8 = .ok (.aload_n 0, 1) := by decide +kernel
theorem dX8_clearText_9 : decode cX8_clearText 9 = .ok (.getfield 39, 3) := by decide +kernel
theorem dX8_clearText_12 : decode cX8_clearText 12 = .ok (.iconst 0, 1) := by decide +kernel
theorem dX8_clearText_13 : decode cX8_clearText 13 = .ok (.putfield 99, 3) := by decide +kernel
theorem dX8_clearText_16 : decode cX8_clearText 16 = .ok (.iload_n 1, 1) := by decide +kernel
theorem dX8_clearText_17 : decode cX8_clearText 17 = .ok (.ireturn, 1) := by decide +kernel
theorem dX8_readProgram_0 : decode cX8_readProgram 0 = .ok (.aload_n 0, 1) := by decide +kernel
theorem dX8_readProgram_1 : decode cX8_readProgram 1 = .ok (.getfield 10, 3) := by decide +kernel
theorem dX8_readProgram_4 : decode cX8_readProgram 4 = .ok (.iload_n 1, 1) := by decide +kernel
theorem dX8_readProgram_5 : decode cX8_readProgram 5 = .ok (.invokevirtual 102, 3) := by decide +kernel
theorem dX8_readProgram_8 : decode cX8_readProgram 8 = .ok (.ifCond .ne 5, 3) := by decide +kernel
theorem dX8_readProgram_11 : decode cX8_readProgram 11 = .ok (.iconst (-1), 1) := by decide +kernel
theorem dX8_readProgram_12 : decode cX8_readProgram 12 = .ok (.ireturn, 1) := by decide +kernel
theorem dX8_readProgram_13 : decode cX8_readProgram 13 = .ok (.aload_n 0, 1) := by decide +kernel
theorem dX8_readProgram_14 : decode cX8_readProgram 14 = .ok (.getfield 39, 3) := by decide +kernel
theorem dX8_readProgram_17 : decode cX8_readProgram 17 = .ok (.invokevirtual 105, 3) := by decide +kernel
theorem dX8_readProgram_20 : decode cX8_readProgram 20 = .ok (.istore_n 2, 1) := by decide +kernel
theorem dX8_readProgram_21 : decode cX8_readProgram 21 = .ok (.iload_n 2, 1) := by decide +kernel
theorem dX8_readProgram_22 : decode cX8_readProgram 22 = .ok (.bipush (-5), 2) := by decide +kernel
theorem dX8_readProgram_24 : decode cX8_readProgram 24 = .ok (.if_icmp .eq 8, 3) := by decide +kernel
theorem dX8_readProgram_27 : decode cX8_readProgram 27 = .ok (.bipush (-100), 2) := by decide +kernel
theorem dX8_readProgram_29 : decode cX8_readProgram 29 = .ok (.iload_n 2, 1) := by decide +kernel
theorem dX8_readProgram_30 : decode cX8_readProgram 30 = .ok (.isub, 1) := by decide +kernel
theorem dX8_readProgram_31 : decode cX8_readProgram 31 = .ok (.ireturn, 1) := by decide +kernel
theorem dX8_readProgram_32 : decode cX8_readProgram 32 = .ok (.aload_n 0, 1) := by decide +kernel
theorem dX8_readProgram_33 : decode cX8_readProgram 33 = .ok (.getfield 39, 3) := by decide +kernel
theorem dX8_readProgram_36 : decode cX8_readProgram 36 = .ok (.invokevirtual 109, 3) := by decide +kernel
theorem dX8_readProgram_39 : decode cX8_readProgram 39 = .ok (.astore_n 3, 1) := by decide +kernel
theorem dX8_readProgram_40 : decode cX8_readProgram 40 = .ok (.aload_n 3, 1) := by decide +kernel
theorem dX8_readProgram_41 : decode cX8_readProgram 41 = .ok (.invokevirtual 113, 3) := by decide +kernel
theorem dX8_readProgram_44 : decode cX8_readProgram 44 = .ok (.ifCond .ne 6, 3) := by decide +kernel
theorem dX8_readProgram_47 : decode cX8_readProgram 47 = .ok (.bipush (-2), 2) := by decide +kernel
theorem dX8_readProgram_49 : decode cX8_readProgram 49 = .ok (.ireturn, 1) := by decide +kernel
theorem dX8_readProgram_50 : decode cX8_readProgram 50 = .ok (.aload_n 3, 1) := by decide +kernel
theorem dX8_readProgram_51 : decode cX8_readProgram 51 = .ok (.getfield 119, 3) := by decide +kernel
theorem dX8_readProgram_54 : decode cX8_readProgram 54 = .ok (.bipush 12, 2) := by decide +kernel
theorem dX8_readProgram_56 : decode cX8_readProgram 56 = .ok (.if_icmp .le 6, 3) := by decide +kernel
theorem dX8_readProgram_59 : decode cX8_readProgram 59 = .ok (.bipush (-3), 2) := by decide +kernel
theorem dX8_readProgram_61 : decode cX8_readProgram 61 = .ok (.ireturn, 1) := by decide +kernel
theorem dX8_readProgram_62 : decode cX8_readProgram 62 = .ok (.aload_n 0, 1) := by decide +kernel
theorem dX8_readProgram_63 : decode cX8_readProgram 63 = .ok (.getfield 10, 3) := by decide +kernel
theorem dX8_readProgram_66 : decode cX8_readProgram 66 = .ok (.iload_n 1, 1) := by decide +kernel
theorem dX8_readProgram_67 : decode cX8_readProgram 67 = .ok (.invokevirtual 120, 3) := by decide +kernel
theorem dX8_readProgram_70 : decode cX8_readProgram 70 = .ok (.getfield 124, 3) := by decide +kernel
theorem dX8_readProgram_73 : decode cX8_readProgram 73 = .ok (.iconst 1, 1) := by decide +kernel
theorem dX8_readProgram_74 : decode cX8_readProgram 74 = .ok (.if_icmp .ne 6, 3) := by decide +kernel
theorem dX8_readProgram_77 : decode cX8_readProgram 77 = .ok (.bipush (-4), 2) := by decide +kernel
theorem dX8_readProgram_79 : decode cX8_readProgram 79 = .ok (.ireturn, 1) := by decide +kernel
theorem dX8_readProgram_80 : decode cX8_readProgram 80 = .ok (.aload_n 0, 1) := by decide +kernel
theorem dX8_readProgram_81 : decode cX8_readProgram 81 = .ok (.getfield 25, 3) := by decide +kernel
theorem dX8_readProgram_84 : decode cX8_readProgram 84 = .ok (.aload_n 0, 1) := by decide +kernel
theorem dX8_readProgram_85 : decode cX8_readProgram 85 = .ok (.getfield 10, 3) := by decide +kernel
theorem dX8_readProgram_88 : decode cX8_readProgram 88 = .ok (.invokevirtual 55, 3) := by decide +kernel
theorem dX8_readProgram_91 : decode cX8_readProgram 91 = .ok (.aload_n 0, 1) := by decide +kernel
theorem dX8_readProgram_92 : decode cX8_readProgram 92 = .ok (.getfield 10, 3) := by decide +kernel
theorem dX8_readProgram_95 : decode cX8_readProgram 95 = .ok (.iload_n 1, 1) := by decide +kernel
theorem dX8_readProgram_96 : decode cX8_readProgram 96 = .ok (.invokevirtual 120, 3) := by decide +kernel
theorem dX8_readProgram_99 : decode cX8_readProgram 99 = .ok (.aload_n 3, 1) := by decide +kernel
theorem dX8_readProgram_100 : decode cX8_readProgram 100 = .ok (.putfield 129, 3) := by decide +kernel
theorem dX8_readProgram_103 : decode cX8_readProgram 103 = .ok (.aload_n 3, 1) := by decide +kernel
theorem dX8_readProgram_104 : decode cX8_readProgram 104 = .ok (.getfield 119, 3) := by decide +kernel
theorem dX8_readProgram_107 : decode cX8_readProgram 107 = .ok (.ireturn, 1) := by decide +kernel
theorem dX8_start_0 : decode cX8_start 0 = .ok (.aload_n 0, 1) := by decide +kernel
theorem dX8_start_1 : decode cX8_start 1 = .ok (.getfield 10, 3) := by decide +kernel
theorem dX8_start_4 : decode cX8_start 4 = .ok (.iload_n 1, 1) := by decide +kernel
theorem dX8_start_5 : decode cX8_start 5 = .ok (.invokevirtual 102, 3) := by decide +kernel
theorem dX8_start_8 : decode cX8_start 8 = .ok (.ifCond .ne 5, 3) := by decide +kernel
theorem dX8_start_11 : decode cX8_start 11 = .ok (.iconst (-1), 1) := by decide +kernel
theorem dX8_start_12 : decode cX8_start 12 = .ok (.ireturn, 1) := by decide +kernel
theorem dX8_start_13 : decode cX8_start 13 = .ok (.aload_n 0, 1) := by decide +kernel
theorem dX8_start_14 : decode cX8_start 14 = .ok (.getfield 10, 3) := by decide +kernel
theorem dX8_start_17 : decode cX8_start 17 = .ok (.iload_n 1, 1) := by decide +kernel
theorem dX8_start_18 : decode cX8_start 18 = .ok (.invokevirtual 120, 3) := by decide +kernel
theorem dX8_start_21 : decode cX8_start 21 = .ok (.astore_n 2, 1) := by decide +kernel
theorem dX8_start_22 : decode cX8_start 22 = .ok (.aload_n 0, 1) := by decide +kernel
theorem dX8_start_23 : decode cX8_start 23 = .ok (.getfield 10, 3) := by decide +kernel
theorem dX8_start_26 : decode cX8_start 26 = .ok (.getfield 80, 3) := by decide +kernel
theorem dX8_start_29 : decode cX8_start 29 = .ok (.ifCond .eq 10, 3) := by decide +kernel
theorem dX8_start_32 : decode cX8_start 32 = .ok (.aload_n 2, 1) := by decide +kernel
theorem dX8_start_33 : decode cX8_start 33 = .ok (.invokevirtual 133, 3) := by decide +kernel
theorem dX8_start_36 : decode cX8_start 36 = .ok (.ifCond .ne 6, 3) := by decide +kernel
theorem dX8_start_39 : decode cX8_start 39 = .ok (.bipush (-4), 2) := by decide +kernel
theorem dX8_start_41 : decode cX8_start 41 = .ok (.ireturn, 1) := by decide +kernel
theorem dX8_start_42 : decode cX8_start 42 = .ok (.aload_n 0, 1) := by decide +kernel
theorem dX8_start_43 : decode cX8_start 43 = .ok (.getfield 25, 3) := by decide +kernel
theorem dX8_start_46 : decode cX8_start 46 = .ok (.aload_n 0, 1) := by decide +kernel
theorem dX8_start_47 : decode cX8_start 47 = .ok (.getfield 10, 3) := by decide +kernel
theorem dX8_start_50 : decode cX8_start 50 = .ok (.invokevirtual 55, 3) := by decide +kernel
theorem dX8_start_53 : decode cX8_start 53 = .ok (.aload_n 2, 1) := by decide +kernel
theorem dX8_start_54 : decode cX8_start 54 = .ok (.invokevirtual 136, 3) := by decide +kernel
theorem dX8_start_57 : decode cX8_start 57 = .ok (.aload_n 2, 1) := by decide +kernel
theorem dX8_start_58 : decode cX8_start 58 = .ok (.getfield 129, 3) := by decide +kernel
theorem dX8_start_61 : decode cX8_start 61 = .ok (.getfield 119, 3) := by decide +kernel
theorem dX8_start_64 : decode cX8_start 64 = .ok (.ireturn, 1) := by decide +kernel
theorem dX8_stop_0 : decode cX8_stop 0 = .ok (.aload_n 0, 1) := by decide +kernel
theorem dX8_stop_1 : decode cX8_stop 1 = .ok (.getfield 10, 3) := by decide +kernel
theorem dX8_stop_4 : decode cX8_stop 4 = .ok (.iload_n 1, 1) := by decide +kernel
theorem dX8_stop_5 : decode cX8_stop 5 = .ok (.invokevirtual 102, 3) := by decide +kernel
theorem dX8_stop_8 : decode cX8_stop 8 = .ok (.ifCond .ne 5, 3) := by decide +kernel
theorem dX8_stop_11 : decode cX8_stop 11 = .ok (.iconst (-1), 1) := by decide +kernel
theorem dX8_stop_12 : decode cX8_stop 12 = .ok (.ireturn, 1) := by decide +kernel
theorem dX8_stop_13 : decode cX8_stop 13 = .ok (.aload_n 0, 1) := by decide +kernel
theorem dX8_stop_14 : decode cX8_stop 14 = .ok (.getfield 10, 3) := by decide +kernel
theorem dX8_stop_17 : decode cX8_stop 17 = .ok (.iload_n 1, 1) := by decide +kernel
theorem dX8_stop_18 : decode cX8_stop 18 = .ok (.invokevirtual 120, 3) := by decide +kernel
theorem dX8_stop_21 : decode cX8_stop 21 = .ok (.astore_n 2, 1) := by decide +kernel
theorem dX8_stop_22 : decode cX8_stop 22 = .ok (.aload_n 2, 1) := by decide +kernel
theorem dX8_stop_23 : decode cX8_stop 23 = .ok (.getfield 124, 3) := by decide +kernel
theorem dX8_stop_26 : decode cX8_stop 26 = .ok (.ifCond .ne 6, 3) := by decide +kernel
theorem dX8_stop_29 : decode cX8_stop 29 = .ok (.bipush (-5), 2) := by decide +kernel
theorem dX8_stop_31 : decode cX8_stop 31 = .ok (.ireturn, 1) := by decide +kernel
theorem dX8_stop_32 : decode cX8_stop 32 = .ok (.aload_n 0, 1) := by decide +kernel
theorem dX8_stop_33 : decode cX8_stop 33 = .ok (.getfield 25, 3) := by decide +kernel
theorem dX8_stop_36 : decode cX8_stop 36 = .ok (.aload_n 0, 1) := by decide +kernel
theorem dX8_stop_37 : decode cX8_stop 37 = .ok (.getfield 10, 3) := by decide +kernel
theorem dX8_stop_40 : decode cX8_stop 40 = .ok (.invokevirtual 55, 3) := by decide +kernel
theorem dX8_stop_43 : decode cX8_stop 43 = .ok (.aload_n 2, 1) := by decide +kernel
theorem dX8_stop_44 : decode cX8_stop 44 = .ok (.iconst 0, 1) := by decide +kernel
theorem dX8_stop_45 : decode cX8_stop 45 = .ok (.putfield 124, 3) := by decide +kernel
theorem dX8_stop_48 : decode cX8_stop 48 = .ok (.aload_n 2, 1) := by decide +kernel
theorem dX8_stop_49 : decode cX8_stop 49 = .ok (.getfield 139, 3) := by decide +kernel
theorem dX8_stop_52 : decode cX8_stop 52 = .ok (.ireturn, 1) := by decide +kernel
theorem dX8_bail_0 : decode cX8_bail 0 = .ok (.aload_n 0, 1) := by decide +kernel
theorem dX8_bail_1 : decode cX8_bail 1 = .ok (.getfield 10, 3) := by decide +kernel
theorem dX8_bail_4 : decode cX8_bail 4 = .ok (.iload_n 1, 1) := by decide +kernel
theorem dX8_bail_5 : decode cX8_bail 5 = .ok (.invokevirtual 102, 3) := by decide +kernel
theorem dX8_bail_8 : decode cX8_bail 8 = .ok (.ifCond .ne 5, 3) := by decide +kernel
theorem dX8_bail_11 : decode cX8_bail 11 = .ok (.iconst (-1), 1) := by decide +kernel
theorem dX8_bail_12 : decode cX8_bail 12 = .ok (.ireturn, 1) := by decide +kernel
theorem dX8_bail_13 : decode cX8_bail 13 = .ok (.aload_n 0, 1) := by decide +kernel
theorem dX8_bail_14 : decode cX8_bail 14 = .ok (.getfield 10, 3) := by decide +kernel
theorem dX8_bail_17 : decode cX8_bail 17 = .ok (.iload_n 1, 1) := by decide +kernel
theorem dX8_bail_18 : decode cX8_bail 18 = .ok (.invokevirtual 120, 3) := by decide +kernel
theorem dX8_bail_21 : decode cX8_bail 21 = .ok (.astore_n 2, 1) := by decide +kernel
theorem dX8_bail_22 : decode cX8_bail 22 = .ok (.aload_n 2, 1) := by decide +kernel
theorem dX8_bail_23 : decode cX8_bail 23 = .ok (.getfield 124, 3) := by decide +kernel
theorem dX8_bail_26 : decode cX8_bail 26 = .ok (.iconst 1, 1) := by decide +kernel
theorem dX8_bail_27 : decode cX8_bail 27 = .ok (.if_icmp .ne 6, 3) := by decide +kernel
theorem dX8_bail_30 : decode cX8_bail 30 = .ok (.bipush (-4), 2) := by decide +kernel
theorem dX8_bail_32 : decode cX8_bail 32 = .ok (.ireturn, 1) := by decide +kernel
theorem dX8_bail_33 : decode cX8_bail 33 = .ok (.aload_n 2, 1) := by decide +kernel
theorem dX8_bail_34 : decode cX8_bail 34 = .ok (.getfield 142, 3) := by decide +kernel
theorem dX8_bail_37 : decode cX8_bail 37 = .ok (.ifCond .ne 6, 3) := by decide +kernel
theorem dX8_bail_40 : decode cX8_bail 40 = .ok (.bipush (-5), 2) := by decide +kernel
theorem dX8_bail_42 : decode cX8_bail 42 = .ok (.ireturn, 1) := by decide +kernel
theorem dX8_bail_43 : decode cX8_bail 43 = .ok (.aload_n 0, 1) := by decide +kernel
theorem dX8_bail_44 : decode cX8_bail 44 = .ok (.getfield 25, 3) := by decide +kernel
theorem dX8_bail_47 : decode cX8_bail 47 = .ok (.aload_n 0, 1) := by decide +kernel
theorem dX8_bail_48 : decode cX8_bail 48 = .ok (.getfield 10, 3) := by decide +kernel
theorem dX8_bail_51 : decode cX8_bail 51 = .ok (.invokevirtual 55, 3) := by decide +kernel
theorem dX8_bail_54 : decode cX8_bail 54 = .ok (.aload_n 2, 1) := by decide +kernel
theorem dX8_bail_55 : decode cX8_bail 55 = .ok (.getfield 142, 3) := by decide +kernel
theorem dX8_bail_58 : decode cX8_bail 58 = .ok (.istore_n 3, 1) := by decide +kernel
theorem dX8_bail_59 : decode cX8_bail 59 = .ok (.aload_n 2, 1) := by decide +kernel
theorem dX8_bail_60 : decode cX8_bail 60 = .ok (.iconst 0, 1) := by decide +kernel
theorem dX8_bail_61 : decode cX8_bail 61 = .ok (.putfield 142, 3) := by decide +kernel
theorem dX8_bail_64 : decode cX8_bail 64 = .ok (.aload_n 2, 1) := by decide +kernel
theorem dX8_bail_65 : decode cX8_bail 65 = .ok (.lconst 0, 1) := by decide +kernel
theorem dX8_bail_66 : decode cX8_bail 66 = .ok (.putfield 145, 3) := by decide +kernel
theorem dX8_bail_69 : decode cX8_bail 69 = .ok (.iload_n 3, 1) := by decide +kernel
theorem dX8_bail_70 : decode cX8_bail 70 = .ok (.ireturn, 1) := by decide +kernel
theorem dX8_openDoor_0 : decode cX8_openDoor 0 = .ok (.aload_n 0, 1) := by decide +kernel
theorem dX8_openDoor_1 : decode cX8_openDoor 1 = .ok (.getfield 10, 3) := by decide +kernel
theorem dX8_openDoor_4 : decode cX8_openDoor 4 = .ok (.iload_n 1, 1) := by decide +kernel
theorem dX8_openDoor_5 : decode cX8_openDoor 5 = .ok (.invokevirtual 102, 3) := by decide +kernel
theorem dX8_openDoor_8 : decode cX8_openDoor 8 = .ok (.ifCond .ne 5, 3) := by decide +kernel
theorem dX8_openDoor_11 : decode cX8_openDoor 11 = .ok (.iconst (-1), 1) := by decide +kernel
theorem dX8_openDoor_12 : decode cX8_openDoor 12 = .ok (.ireturn, 1) := by decide +kernel
theorem dX8_openDoor_13 : decode cX8_openDoor 13 = .ok (.aload_n 0, 1) := by decide +kernel
theorem dX8_openDoor_14 : decode cX8_openDoor 14 = .ok (.getfield 10, 3) := by decide +kernel
theorem dX8_openDoor_17 : decode cX8_openDoor 17 = .ok (.iload_n 1, 1) := by decide +kernel
theorem dX8_openDoor_18 : decode cX8_openDoor 18 = .ok (.invokevirtual 120, 3) := by decide +kernel
theorem dX8_openDoor_21 : decode cX8_openDoor 21 = .ok (.astore_n 2, 1) := by decide +kernel
theorem dX8_openDoor_22 : decode cX8_openDoor 22 = .ok (.aload_n 2, 1) := by decide +kernel
theorem dX8_openDoor_23 : decode cX8_openDoor 23 = .ok (.getfield 149, 3) := by decide +kernel
theorem dX8_openDoor_26 : decode cX8_openDoor 26 = .ok (.iconst 2, 1) := by decide +kernel
theorem dX8_openDoor_27 : decode cX8_openDoor 27 = .ok (.if_icmp .ne 6, 3) := by decide +kernel
theorem dX8_openDoor_30 : decode cX8_openDoor 30 = .ok (.bipush (-4), 2) := by decide +kernel
theorem dX8_openDoor_32 : decode cX8_openDoor 32 = .ok (.ireturn, 1) := by decide +kernel
theorem dX8_openDoor_33 : decode cX8_openDoor 33 = .ok (.aload_n 2, 1) := by decide +kernel
theorem dX8_openDoor_34 : decode cX8_openDoor 34 = .ok (.getfield 149, 3) := by decide +kernel
theorem dX8_openDoor_37 : decode cX8_openDoor 37 = .ok (.ifCond .ne 6, 3) := by decide +kernel
theorem dX8_openDoor_40 : decode cX8_openDoor 40 = .ok (.bipush (-5), 2) := by decide +kernel
theorem dX8_openDoor_42 : decode cX8_openDoor 42 = .ok (.ireturn, 1) := by decide +kernel
theorem dX8_openDoor_43 : decode cX8_openDoor 43 = .ok (.aload_n 0, 1) := by decide +kernel
theorem dX8_openDoor_44 : decode cX8_openDoor 44 = .ok (.getfield 25, 3) := by decide +kernel
theorem dX8_openDoor_47 : decode cX8_openDoor 47 = .ok (.aload_n 0, 1) := by decide +kernel
theorem dX8_openDoor_48 : decode cX8_openDoor 48 = .ok (.getfield 10, 3) := by decide +kernel
theorem dX8_openDoor_51 : decode cX8_openDoor 51 = .ok (.invokevirtual 55, 3) := by decide +kernel
theorem dX8_openDoor_54 : decode cX8_openDoor 54 = .ok (.aload_n 2, 1) := by decide +kernel
theorem dX8_openDoor_55 : decode cX8_openDoor 55 = .ok (.iconst 0, 1) := by decide +kernel
theorem dX8_openDoor_56 : decode cX8_openDoor 56 = .ok (.putfield 149, 3) := by decide +kernel
theorem dX8_openDoor_59 : decode cX8_openDoor 59 = .ok (.aload_n 2, 1) := by decide +kernel
theorem dX8_openDoor_60 : decode cX8_openDoor 60 = .ok (.invokevirtual 152, 3) := by decide +kernel
theorem dX8_openDoor_63 : decode cX8_openDoor 63 = .ok (.ireturn, 1) := by decide +kernel
theorem dX8_closeDoor_0 : decode cX8_closeDoor 0 = .ok (.aload_n 0, 1) := by decide +kernel
theorem dX8_closeDoor_1 : decode cX8_closeDoor 1 = .ok (.getfield 10, 3) := by decide +kernel
theorem dX8_closeDoor_4 : decode cX8_closeDoor 4 = .ok (.iload_n 1, 1) := by decide +kernel
theorem dX8_closeDoor_5 : decode cX8_closeDoor 5 = .ok (.invokevirtual 102, 3) := by decide +kernel
theorem dX8_closeDoor_8 : decode cX8_closeDoor 8 = .ok (.ifCond .ne 5, 3) := by decide +kernel
theorem dX8_closeDoor_11 : decode cX8_closeDoor 11 = .ok (.iconst (-1), 1) := by decide +kernel
theorem dX8_closeDoor_12 : decode cX8_closeDoor 12 = .ok (.ireturn, 1) := by decide +kernel
theorem dX8_closeDoor_13 : decode cX8_closeDoor 13 = .ok (.aload_n 0, 1) := by decide +kernel
theorem dX8_closeDoor_14 : decode cX8_closeDoor 14 = .ok (.getfield 10, 3) := by decide +kernel
theorem dX8_closeDoor_17 : decode cX8_closeDoor 17 = .ok (.iload_n 1, 1) := by decide +kernel
theorem dX8_closeDoor_18 : decode cX8_closeDoor 18 = .ok (.invokevirtual 120, 3) := by decide +kernel
theorem dX8_closeDoor_21 : decode cX8_closeDoor 21 = .ok (.astore_n 2, 1) := by decide +kernel
theorem dX8_closeDoor_22 : decode cX8_closeDoor 22 = .ok (.aload_n 2, 1) := by decide +kernel
theorem dX8_closeDoor_23 : decode cX8_closeDoor 23 = .ok (.getfield 149, 3) := by decide +kernel
theorem dX8_closeDoor_26 : decode cX8_closeDoor 26 = .ok (.ifCond .eq 6, 3) := by decide +kernel
theorem dX8_closeDoor_29 : decode cX8_closeDoor 29 = .ok (.bipush (-5), 2) := by decide +kernel
theorem dX8_closeDoor_31 : decode cX8_closeDoor 31 = .ok (.ireturn, 1) := by decide +kernel
theorem dX8_closeDoor_32 : decode cX8_closeDoor 32 = .ok (.aload_n 0, 1) := by decide +kernel
theorem dX8_closeDoor_33 : decode cX8_closeDoor 33 = .ok (.getfield 25, 3) := by decide +kernel
theorem dX8_closeDoor_36 : decode cX8_closeDoor 36 = .ok (.aload_n 0, 1) := by decide +kernel
theorem dX8_closeDoor_37 : decode cX8_closeDoor 37 = .ok (.getfield 10, 3) := by decide +kernel
theorem dX8_closeDoor_40 : decode cX8_closeDoor 40 = .ok (.invokevirtual 55, 3) := by decide +kernel
theorem dX8_closeDoor_43 : decode cX8_closeDoor 43 = .ok (.aload_n 2, 1) := by decide +kernel
theorem dX8_closeDoor_44 : decode cX8_closeDoor 44 = .ok (.iconst 1, 1) := by decide +kernel
theorem dX8_closeDoor_45 : decode cX8_closeDoor 45 = .ok (.putfield 149, 3) := by decide +kernel
theorem dX8_closeDoor_48 : decode cX8_closeDoor 48 = .ok (.iconst 1, 1) := by decide +kernel
theorem dX8_closeDoor_49 : decode cX8_closeDoor 49 = .ok (.ireturn, 1) := by decide +kernel
theorem dX8_haggle_0 : decode cX8_haggle 0 = .ok (.aload_n 0, 1) := by decide +kernel
theorem dX8_haggle_1 : decode cX8_haggle 1 = .ok (.getfield 10, 3) := by decide +kernel
theorem dX8_haggle_4 : decode cX8_haggle 4 = .ok (.iload_n 1, 1) := by decide +kernel
theorem dX8_haggle_5 : decode cX8_haggle 5 = .ok (.invokevirtual 102, 3) := by decide +kernel
theorem dX8_haggle_8 : decode cX8_haggle 8 = .ok (.ifCond .eq 14, 3) := by decide +kernel
theorem dX8_haggle_11 : decode cX8_haggle 11 = .ok (.aload_n 0, 1) := by decide +kernel
theorem dX8_haggle_12 : decode cX8_haggle 12 = .ok (.getfield 10, 3) := by decide +kernel
theorem dX8_haggle_15 : decode cX8_haggle 15 = .ok (.iload_n 2, 1) := by decide +kernel
theorem dX8_haggle_16 : decode cX8_haggle 16 = .ok (.invokevirtual 102, 3) := by decide +kernel
theorem dX8_haggle_19 : decode cX8_haggle 19 = .ok (.ifCond .ne 5, 3) := by decide +kernel
theorem dX8_haggle_22 : decode cX8_haggle 22 = .ok (.iconst (-1), 1) := by decide +kernel
theorem dX8_haggle_23 : decode cX8_haggle 23 = .ok (.ireturn, 1) := by decide +kernel
theorem dX8_haggle_24 : decode cX8_haggle 24 = .ok (.iload_n 3, 1) := by decide +kernel
theorem dX8_haggle_25 : decode cX8_haggle 25 = .ok (.iconst 1, 1) := by decide +kernel
theorem dX8_haggle_26 : decode cX8_haggle 26 = .ok (.bipush 20, 2) := by decide +kernel
theorem dX8_haggle_28 : decode cX8_haggle 28 = .ok (.invokestatic 47, 3) := by decide +kernel
theorem dX8_haggle_31 : decode cX8_haggle 31 = .ok (.ifCond .eq 32, 3) := by decide +kernel
theorem dX8_haggle_34 : decode cX8_haggle 34 = .ok (.iload 4, 2) := by decide +kernel
theorem dX8_haggle_36 : decode cX8_haggle 36 = .ok (.iconst 1, 1) := by decide +kernel
theorem dX8_haggle_37 : decode cX8_haggle 37 = .ok (.sipush 9999, 3) := by decide +kernel
theorem dX8_haggle_40 : decode cX8_haggle 40 = .ok (.invokestatic 47, 3) := by decide +kernel
theorem dX8_haggle_43 : decode cX8_haggle 43 = .ok (.ifCond .eq 20, 3) := by decide +kernel
theorem dX8_haggle_46 : decode cX8_haggle 46 = .ok (.iload 5, 2) := by decide +kernel
theorem dX8_haggle_48 : decode cX8_haggle 48 = .ok (.iconst 1, 1) := by decide +kernel
theorem dX8_haggle_49 : decode cX8_haggle 49 = .ok (.sipush 240, 3) := by decide +kernel
theorem dX8_haggle_52 : decode cX8_haggle 52 = .ok (.invokestatic 47, 3) := by decide +kernel
theorem dX8_haggle_55 : decode cX8_haggle 55 = .ok (.ifCond .eq 8, 3) := by decide +kernel
theorem dX8_haggle_58 : decode cX8_haggle 58 = .ok (.iload_n 1, 1) := by decide +kernel
theorem dX8_haggle_59 : decode cX8_haggle 59 = .ok (.iload_n 2, 1) := by decide +kernel
theorem dX8_haggle_60 : decode cX8_haggle 60 = .ok (.if_icmp .ne 6, 3) := by decide +kernel
theorem dX8_haggle_63 : decode cX8_haggle 63 = .ok (.bipush (-2), 2) := by decide +kernel
theorem dX8_haggle_65 : decode cX8_haggle 65 = .ok (.ireturn, 1) := by decide +kernel
theorem dX8_haggle_66 : decode cX8_haggle 66 = .ok (.aload_n 0, 1) := by decide +kernel
theorem dX8_haggle_67 : decode cX8_haggle 67 = .ok (.getfield 10, 3) := by decide +kernel
theorem dX8_haggle_70 : decode cX8_haggle 70 = .ok (.iload_n 2, 1) := by decide +kernel
theorem dX8_haggle_71 : decode cX8_haggle 71 = .ok (.invokevirtual 155, 3) := by decide +kernel
theorem dX8_haggle_74 : decode cX8_haggle 74 = .ok (.iload_n 3, 1) := by decide +kernel
theorem dX8_haggle_75 : decode cX8_haggle 75 = .ok (.if_icmp .lt 20, 3) := by decide +kernel
theorem dX8_haggle_78 : decode cX8_haggle 78 = .ok (.aload_n 0, 1) := by decide +kernel
theorem dX8_haggle_79 : decode cX8_haggle 79 = .ok (.getfield 10, 3) := by decide +kernel
theorem dX8_haggle_82 : decode cX8_haggle 82 = .ok (.getfield 158, 3) := by decide +kernel
theorem dX8_haggle_85 : decode cX8_haggle 85 = .ok (.iload_n 1, 1) := by decide +kernel
theorem dX8_haggle_86 : decode cX8_haggle 86 = .ok (.aaload, 1) := by decide +kernel
theorem dX8_haggle_87 : decode cX8_haggle 87 = .ok (.getfield 162, 3) := by decide +kernel
theorem dX8_haggle_90 : decode cX8_haggle 90 = .ok (.iload 4, 2) := by decide +kernel
theorem dX8_haggle_92 : decode cX8_haggle 92 = .ok (.if_icmp .ge 6, 3) := by decide +kernel
theorem dX8_haggle_95 : decode cX8_haggle 95 = .ok (.bipush (-4), 2) := by decide +kernel
theorem dX8_haggle_97 : decode cX8_haggle 97 = .ok (.ireturn, 1) := by decide +kernel
theorem dX8_haggle_98 : decode cX8_haggle 98 = .ok (.aload_n 0, 1) := by decide +kernel
theorem dX8_haggle_99 : decode cX8_haggle 99 = .ok (.getfield 10, 3) := by decide +kernel
theorem dX8_haggle_102 : decode cX8_haggle 102 = .ok (.getfield 167, 3) := by decide +kernel
theorem dX8_haggle_105 : decode cX8_haggle 105 = .ok (.bipush 10, 2) := by decide +kernel
theorem dX8_haggle_107 : decode cX8_haggle 107 = .ok (.if_icmp .lt 6, 3) := by decide +kernel
theorem dX8_haggle_110 : decode cX8_haggle 110 = .ok (.bipush (-3), 2) := by decide +kernel
theorem dX8_haggle_112 : decode cX8_haggle 112 = .ok (.ireturn, 1) := by decide +kernel
theorem dX8_haggle_113 : decode cX8_haggle 113 = .ok (.aload_n 0, 1) := by decide +kernel
theorem dX8_haggle_114 : decode cX8_haggle 114 = .ok (.getfield 25, 3) := by decide +kernel
theorem dX8_haggle_117 : decode cX8_haggle 117 = .ok (.aload_n 0, 1) := by decide +kernel
theorem dX8_haggle_118 : decode cX8_haggle 118 = .ok (.getfield 10, 3) := by decide +kernel
theorem dX8_haggle_121 : decode cX8_haggle 121 = .ok (.invokevirtual 55, 3) := by decide +kernel
theorem dX8_haggle_124 : decode cX8_haggle 124 = .ok (.aload_n 0, 1) := by decide +kernel
theorem dX8_haggle_125 : decode cX8_haggle 125 = .ok (.getfield 10, 3) := by decide +kernel
theorem dX8_haggle_128 : decode cX8_haggle 128 = .ok (.iload_n 2, 1) := by decide +kernel
theorem dX8_haggle_129 : decode cX8_haggle 129 = .ok (.iload_n 3, 1) := by decide +kernel
theorem dX8_haggle_130 : decode cX8_haggle 130 = .ok (.invokevirtual 170, 3) := by decide +kernel
theorem dX8_haggle_133 : decode cX8_haggle 133 = .ok (.istore 6, 2) := by decide +kernel
theorem dX8_haggle_135 : decode cX8_haggle 135 = .ok (.iload 4, 2) := by decide +kernel
theorem dX8_haggle_137 : decode cX8_haggle 137 = .ok (.iload 6, 2) := by decide +kernel
theorem dX8_haggle_139 : decode cX8_haggle 139 = .ok (.if_icmp .ge 28, 3) := by decide +kernel
theorem dX8_haggle_142 : decode cX8_haggle 142 = .ok (.aload_n 0, 1) := by decide +kernel
theorem dX8_haggle_143 : decode cX8_haggle 143 = .ok (.getfield 10, 3) := by decide +kernel
theorem dX8_haggle_146 : decode cX8_haggle 146 = .ok (.iload_n 1, 1) := by decide +kernel
theorem dX8_haggle_147 : decode cX8_haggle 147 = .ok (.iload_n 2, 1) := by decide +kernel
theorem dX8_haggle_148 : decode cX8_haggle 148 = .ok (.iconst 2, 1) := by decide +kernel
theorem dX8_haggle_149 : decode cX8_haggle 149 = .ok (.iload 4, 2) := by decide +kernel
theorem dX8_haggle_151 : decode cX8_haggle 151 = .ok (.imul, 1) := by decide +kernel
theorem dX8_haggle_152 : decode cX8_haggle 152 = .ok (.iload 6, 2) := by decide +kernel
theorem dX8_haggle_154 : decode cX8_haggle 154 = .ok (.if_icmp .lt 7, 3) := by decide +kernel
theorem dX8_haggle_157 : decode cX8_haggle 157 = .ok (.iconst 1, 1) := by decide +kernel
theorem dX8_haggle_158 : decode cX8_haggle 158 = .ok (.goto 4, 3) := by decide +kernel
theorem dX8_haggle_161 : decode cX8_haggle 161 = .ok (.iconst 0, 1) := by decide +kernel
theorem dX8_haggle_162 : decode cX8_haggle 162 = .ok (.invokevirtual 174, 3) := by decide +kernel
theorem dX8_haggle_165 : decode cX8_haggle 165 = .ok (.iconst 0, 1) := by decide +kernel
theorem dX8_haggle_166 : decode cX8_haggle 166 = .ok (.ireturn, 1) := by decide +kernel
theorem dX8_haggle_167 : decode cX8_haggle 167 = .ok (.iload 4, 2) := by decide +kernel
theorem dX8_haggle_169 : decode cX8_haggle 169 = .ok (.iload 6, 2) := by decide +kernel
theorem dX8_haggle_171 : decode cX8_haggle 171 = .ok (.iadd, 1) := by decide +kernel
theorem dX8_haggle_172 : decode cX8_haggle 172 = .ok (.iconst 2, 1) := by decide +kernel
theorem dX8_haggle_173 : decode cX8_haggle 173 = .ok (.idiv, 1) := by decide +kernel
theorem dX8_haggle_174 : decode cX8_haggle 174 = .ok (.istore 7, 2) := by decide +kernel
theorem dX8_haggle_176 : decode cX8_haggle 176 = .ok (.aload_n 0, 1) := by decide +kernel
theorem dX8_haggle_177 : decode cX8_haggle 177 = .ok (.getfield 10, 3) := by decide +kernel
theorem dX8_haggle_180 : decode cX8_haggle 180 = .ok (.iload_n 1, 1) := by decide +kernel
theorem dX8_haggle_181 : decode cX8_haggle 181 = .ok (.iload_n 2, 1) := by decide +kernel
theorem dX8_haggle_182 : decode cX8_haggle 182 = .ok (.iload 7, 2) := by decide +kernel
theorem dX8_haggle_184 : decode cX8_haggle 184 = .ok (.invokevirtual 178, 3) := by decide +kernel
theorem dX8_haggle_187 : decode cX8_haggle 187 = .ok (.aload_n 0, 1) := by decide +kernel
theorem dX8_haggle_188 : decode cX8_haggle 188 = .ok (.getfield 10, 3) := by decide +kernel
theorem dX8_haggle_191 : decode cX8_haggle 191 = .ok (.iload_n 1, 1) := by decide +kernel
theorem dX8_haggle_192 : decode cX8_haggle 192 = .ok (.iload_n 2, 1) := by decide +kernel
theorem dX8_haggle_193 : decode cX8_haggle 193 = .ok (.iload_n 3, 1) := by decide +kernel
theorem dX8_haggle_194 : decode cX8_haggle 194 = .ok (.iload 5, 2) := by decide +kernel
theorem dX8_haggle_196 : decode cX8_haggle 196 = .ok (.iload 7, 2) := by decide +kernel
theorem dX8_haggle_198 : decode cX8_haggle 198 = .ok (.invokevirtual 182, 3) := by decide +kernel
theorem dX8_haggle_201 : decode cX8_haggle 201 = .ok (.iload 7, 2) := by decide +kernel
theorem dX8_haggle_203 : decode cX8_haggle 203 = .ok (.ireturn, 1) := by decide +kernel
theorem dX8_undo_0 : decode cX8_undo 0 = .ok (.aload_n 0, 1) := by decide +kernel
theorem dX8_undo_1 : decode cX8_undo 1 = .ok (.getfield 25, 3) := by decide +kernel
theorem dX8_undo_4 : decode cX8_undo 4 = .ok (.aload_n 0, 1) := by decide +kernel
theorem dX8_undo_5 : decode cX8_undo 5 = .ok (.getfield 10, 3) := by decide +kernel
theorem dX8_undo_8 : decode cX8_undo 8 = .ok (.invokevirtual 186, 3) := by decide +kernel
theorem dX8_undo_11 : decode cX8_undo 11 = .ok (.ifCond .eq 13, 3) := by decide +kernel
theorem dX8_undo_14 : decode cX8_undo 14 = .ok (.aload_n 0, 1) := by decide +kernel
theorem dX8_undo_15 : decode cX8_undo 15 = .ok (.getfield 25, 3) := by decide +kernel
theorem dX8_undo_18 : decode cX8_undo 18 = .ok (.getfield 190, 3) := by decide +kernel
theorem dX8_undo_21 : decode cX8_undo 21 = .ok (.goto 5, 3) := by decide +kernel
theorem dX8_undo_24 : decode cX8_undo 24 = .ok (.bipush (-5), 2) := by decide +kernel
theorem dX8_undo_26 : decode cX8_undo 26 = .ok (.ireturn, 1) := by decide +kernel
theorem dX8_keep_0 : decode cX8_keep 0 = .ok (.aload_n 0, 1) := by decide +kernel
theorem dX8_keep_1 : decode cX8_keep 1 = .ok (.getfield 19, 3) := by decide +kernel
theorem dX8_keep_4 : decode cX8_keep 4 = .ok (.aload_n 0, 1) := by decide +kernel
theorem dX8_keep_5 : decode cX8_keep 5 = .ok (.getfield 10, 3) := by decide +kernel
theorem dX8_keep_8 : decode cX8_keep 8 = .ok (.invokevirtual 193, 3) := by decide +kernel
theorem dX8_keep_11 : decode cX8_keep 11 = .ok (.aload_n 0, 1) := by decide +kernel
theorem dX8_keep_12 : decode cX8_keep 12 = .ok (.iconst 1, 1) := by decide +kernel
theorem dX8_keep_13 : decode cX8_keep 13 = .ok (.putfield 43, 3) := by decide +kernel
theorem dX8_keep_16 : decode cX8_keep 16 = .ok (.aload_n 0, 1) := by decide +kernel
theorem dX8_keep_17 : decode cX8_keep 17 = .ok (.getfield 10, 3) := by decide +kernel
theorem dX8_keep_20 : decode cX8_keep 20 = .ok (.getfield 196, 3) := by decide +kernel
theorem dX8_keep_23 : decode cX8_keep 23 = .ok (.ireturn, 1) := by decide +kernel
theorem dX8_restore_0 : decode cX8_restore 0 = .ok (.aload_n 0, 1) := by decide +kernel
theorem dX8_restore_1 : decode cX8_restore 1 = .ok (.getfield 43, 3) := by decide +kernel
theorem dX8_restore_4 : decode cX8_restore 4 = .ok (.ifCond .ne 6, 3) := by decide +kernel
theorem dX8_restore_7 : decode cX8_restore 7 = .ok (.bipush (-5), 2) := by decide +kernel
theorem dX8_restore_9 : decode cX8_restore 9 = .ok (.ireturn, 1) := by decide +kernel
theorem dX8_restore_10 : decode cX8_restore 10 = .ok (.aload_n 0, 1) := by decide +kernel
theorem dX8_restore_11 : decode cX8_restore 11 = .ok (.getfield 25, 3) := by decide +kernel
theorem dX8_restore_14 : decode cX8_restore 14 = .ok (.aload_n 0, 1) := by decide +kernel
theorem dX8_restore_15 : decode cX8_restore 15 = .ok (.getfield 10, 3) := by decide +kernel
theorem dX8_restore_18 : decode cX8_restore 18 = .ok (.invokevirtual 55, 3) := by decide +kernel
theorem dX8_restore_21 : decode cX8_restore 21 = .ok (.aload_n 0, 1) := by decide +kernel
theorem dX8_restore_22 : decode cX8_restore 22 = .ok (.getfield 10, 3) := by decide +kernel
theorem dX8_restore_25 : decode cX8_restore 25 = .ok (.aload_n 0, 1) := by decide +kernel
theorem dX8_restore_26 : decode cX8_restore 26 = .ok (.getfield 19, 3) := by decide +kernel
theorem dX8_restore_29 : decode cX8_restore 29 = .ok (.invokevirtual 193, 3) := by decide +kernel
theorem dX8_restore_32 : decode cX8_restore 32 = .ok (.aload_n 0, 1) := by decide +kernel
theorem dX8_restore_33 : decode cX8_restore 33 = .ok (.getfield 10, 3) := by decide +kernel
theorem dX8_restore_36 : decode cX8_restore 36 = .ok (.getfield 196, 3) := by decide +kernel
theorem dX8_restore_39 : decode cX8_restore 39 = .ok (.ireturn, 1) := by decide +kernel
theorem dX8_house_0 : decode cX8_house 0 = .ok (.aload_n 0, 1) := by decide +kernel
theorem dX8_house_1 : decode cX8_house 1 = .ok (.getfield 10, 3) := by decide +kernel
theorem dX8_house_4 : decode cX8_house 4 = .ok (.iload_n 1, 1) := by decide +kernel
theorem dX8_house_5 : decode cX8_house 5 = .ok (.invokevirtual 102, 3) := by decide +kernel
theorem dX8_house_8 : decode cX8_house 8 = .ok (.ifCond .ne 5, 3) := by decide +kernel
theorem dX8_house_11 : decode cX8_house 11 = .ok (.iconst (-1), 1) := by decide +kernel
theorem dX8_house_12 : decode cX8_house 12 = .ok (.ireturn, 1) := by decide +kernel
theorem dX8_house_13 : decode cX8_house 13 = .ok (.iload_n 2, 1) := by decide +kernel
theorem dX8_house_14 : decode cX8_house 14 = .ok (.ifCond .ne 14, 3) := by decide +kernel
theorem dX8_house_17 : decode cX8_house 17 = .ok (.aload_n 0, 1) := by decide +kernel
theorem dX8_house_18 : decode cX8_house 18 = .ok (.getfield 10, 3) := by decide +kernel
theorem dX8_house_21 : decode cX8_house 21 = .ok (.iload_n 1, 1) := by decide +kernel
theorem dX8_house_22 : decode cX8_house 22 = .ok (.invokevirtual 199, 3) := by decide +kernel
theorem dX8_house_25 : decode cX8_house 25 = .ok (.goto 16, 3) := by decide +kernel
theorem dX8_house_28 : decode cX8_house 28 = .ok (.aload_n 0, 1) := by decide +kernel
theorem dX8_house_29 : decode cX8_house 29 = .ok (.getfield 10, 3) := by decide +kernel
theorem dX8_house_32 : decode cX8_house 32 = .ok (.getfield 158, 3) := by decide +kernel
theorem dX8_house_35 : decode cX8_house 35 = .ok (.iload_n 1, 1) := by decide +kernel
theorem dX8_house_36 : decode cX8_house 36 = .ok (.aaload, 1) := by decide +kernel
theorem dX8_house_37 : decode cX8_house 37 = .ok (.iload_n 2, 1) := by decide +kernel
theorem dX8_house_38 : decode cX8_house 38 = .ok (.invokevirtual 202, 3) := by decide +kernel
theorem dX8_house_41 : decode cX8_house 41 = .ok (.ireturn, 1) := by decide +kernel
theorem dX8_washer_0 : decode cX8_washer 0 = .ok (.aload_n 0, 1) := by decide +kernel
theorem dX8_washer_1 : decode cX8_washer 1 = .ok (.getfield 10, 3) := by decide +kernel
theorem dX8_washer_4 : decode cX8_washer 4 = .ok (.iload_n 1, 1) := by decide +kernel
theorem dX8_washer_5 : decode cX8_washer 5 = .ok (.invokevirtual 102, 3) := by decide +kernel
theorem dX8_washer_8 : decode cX8_washer 8 = .ok (.ifCond .eq 18, 3) := by decide +kernel
theorem dX8_washer_11 : decode cX8_washer 11 = .ok (.aload_n 0, 1) := by decide +kernel
theorem dX8_washer_12 : decode cX8_washer 12 = .ok (.getfield 10, 3) := by decide +kernel
theorem dX8_washer_15 : decode cX8_washer 15 = .ok (.iload_n 1, 1) := by decide +kernel
theorem dX8_washer_16 : decode cX8_washer 16 = .ok (.invokevirtual 120, 3) := by decide +kernel
theorem dX8_washer_19 : decode cX8_washer 19 = .ok (.iload_n 2, 1) := by decide +kernel
theorem dX8_washer_20 : decode cX8_washer 20 = .ok (.invokevirtual 205, 3) := by decide +kernel
theorem dX8_washer_23 : decode cX8_washer 23 = .ok (.goto 4, 3) := by decide +kernel
theorem dX8_washer_26 : decode cX8_washer 26 = .ok (.iconst (-1), 1) := by decide +kernel
theorem dX8_washer_27 : decode cX8_washer 27 = .ok (.ireturn, 1) := by decide +kernel
theorem dX8_phase_0 : decode cX8_phase 0 = .ok (.aload_n 0, 1) := by decide +kernel
theorem dX8_phase_1 : decode cX8_phase 1 = .ok (.getfield 10, 3) := by decide +kernel
theorem dX8_phase_4 : decode cX8_phase 4 = .ok (.iload_n 1, 1) := by decide +kernel
theorem dX8_phase_5 : decode cX8_phase 5 = .ok (.invokevirtual 102, 3) := by decide +kernel
theorem dX8_phase_8 : decode cX8_phase 8 = .ok (.ifCond .ne 5, 3) := by decide +kernel
theorem dX8_phase_11 : decode cX8_phase 11 = .ok (.iconst (-1), 1) := by decide +kernel
theorem dX8_phase_12 : decode cX8_phase 12 = .ok (.ireturn, 1) := by decide +kernel
theorem dX8_phase_13 : decode cX8_phase 13 = .ok (.aload_n 0, 1) := by decide +kernel
theorem dX8_phase_14 : decode cX8_phase 14 = .ok (.getfield 10, 3) := by decide +kernel
theorem dX8_phase_17 : decode cX8_phase 17 = .ok (.iload_n 1, 1) := by decide +kernel
theorem dX8_phase_18 : decode cX8_phase 18 = .ok (.invokevirtual 120, 3) := by decide +kernel
theorem dX8_phase_21 : decode cX8_phase 21 = .ok (.getfield 129, 3) := by decide +kernel
theorem dX8_phase_24 : decode cX8_phase 24 = .ok (.astore 4, 2) := by decide +kernel
theorem dX8_phase_26 : decode cX8_phase 26 = .ok (.aload 4, 2) := by decide +kernel
theorem dX8_phase_28 : decode cX8_phase 28 = .ok (.iload_n 2, 1) := by decide +kernel
theorem dX8_phase_29 : decode cX8_phase 29 = .ok (.invokevirtual 206, 3) := by decide +kernel
theorem dX8_phase_32 : decode cX8_phase 32 = .ok (.ifCond .ne 5, 3) := by decide +kernel
theorem dX8_phase_35 : decode cX8_phase 35 = .ok (.iconst (-1), 1) := by decide +kernel
theorem dX8_phase_36 : decode cX8_phase 36 = .ok (.ireturn, 1) := by decide +kernel
theorem dX8_phase_37 : decode cX8_phase 37 = .ok (.iload_n 3, 1) := by decide +kernel
theorem dX8_phase_38 : decode cX8_phase 38 = .ok (.lookupswitch 40 #[(0, 26), (1, 33)], 26) := by decide +kernel
theorem dX8_phase_64 : decode cX8_phase 64 = .ok (.aload 4, 2) := by decide +kernel
theorem dX8_phase_66 : decode cX8_phase 66 = .ok (.iload_n 2, 1) := by decide +kernel
theorem dX8_phase_67 : decode cX8_phase 67 = .ok (.invokevirtual 209, 3) := by decide +kernel
theorem dX8_phase_70 : decode cX8_phase 70 = .ok (.ireturn, 1) := by decide +kernel
theorem dX8_phase_71 : decode cX8_phase 71 = .ok (.aload 4, 2) := by decide +kernel
theorem dX8_phase_73 : decode cX8_phase 73 = .ok (.iload_n 2, 1) := by decide +kernel
theorem dX8_phase_74 : decode cX8_phase 74 = .ok (.invokevirtual 213, 3) := by decide +kernel
theorem dX8_phase_77 : decode cX8_phase 77 = .ok (.ireturn, 1) := by decide +kernel
theorem dX8_phase_78 : decode cX8_phase 78 = .ok (.bipush (-2), 2) := by decide +kernel
theorem dX8_phase_80 : decode cX8_phase 80 = .ok (.ireturn, 1) := by decide +kernel
theorem dX8_boiler_0 : decode cX8_boiler 0 = .ok (.iload_n 1, 1) := by decide +kernel
theorem dX8_boiler_1 : decode cX8_boiler 1 = .ok (.tableswitch 119 0 7 #[47, 55, 65, 75, 85, 93, 101, 109], 47) := by decide +kernel
theorem dX8_boiler_48 : decode cX8_boiler 48 = .ok (.aload_n 0, 1) := by decide +kernel
theorem dX8_boiler_49 : decode cX8_boiler 49 = .ok (.getfield 10, 3) := by decide +kernel
theorem dX8_boiler_52 : decode cX8_boiler 52 = .ok (.getfield 70, 3) := by decide +kernel
theorem dX8_boiler_55 : decode cX8_boiler 55 = .ok (.ireturn, 1) := by decide +kernel
theorem dX8_boiler_56 : decode cX8_boiler 56 = .ok (.aload_n 0, 1) := by decide +kernel
theorem dX8_boiler_57 : decode cX8_boiler 57 = .ok (.getfield 10, 3) := by decide +kernel
theorem dX8_boiler_60 : decode cX8_boiler 60 = .ok (.getfield 77, 3) := by decide +kernel
theorem dX8_boiler_63 : decode cX8_boiler 63 = .ok (.iconst 0, 1) := by decide +kernel
theorem dX8_boiler_64 : decode cX8_boiler 64 = .ok (.iaload, 1) := by decide +kernel
theorem dX8_boiler_65 : decode cX8_boiler 65 = .ok (.ireturn, 1) := by decide +kernel
theorem dX8_boiler_66 : decode cX8_boiler 66 = .ok (.aload_n 0, 1) := by decide +kernel
theorem dX8_boiler_67 : decode cX8_boiler 67 = .ok (.getfield 10, 3) := by decide +kernel
theorem dX8_boiler_70 : decode cX8_boiler 70 = .ok (.getfield 77, 3) := by decide +kernel
theorem dX8_boiler_73 : decode cX8_boiler 73 = .ok (.iconst 1, 1) := by decide +kernel
theorem dX8_boiler_74 : decode cX8_boiler 74 = .ok (.iaload, 1) := by decide +kernel
theorem dX8_boiler_75 : decode cX8_boiler 75 = .ok (.ireturn, 1) := by decide +kernel
theorem dX8_boiler_76 : decode cX8_boiler 76 = .ok (.aload_n 0, 1) := by decide +kernel
theorem dX8_boiler_77 : decode cX8_boiler 77 = .ok (.getfield 10, 3) := by decide +kernel
theorem dX8_boiler_80 : decode cX8_boiler 80 = .ok (.getfield 77, 3) := by decide +kernel
theorem dX8_boiler_83 : decode cX8_boiler 83 = .ok (.iconst 2, 1) := by decide +kernel
theorem dX8_boiler_84 : decode cX8_boiler 84 = .ok (.iaload, 1) := by decide +kernel
theorem dX8_boiler_85 : decode cX8_boiler 85 = .ok (.ireturn, 1) := by decide +kernel
theorem dX8_boiler_86 : decode cX8_boiler 86 = .ok (.aload_n 0, 1) := by decide +kernel
theorem dX8_boiler_87 : decode cX8_boiler 87 = .ok (.getfield 10, 3) := by decide +kernel
theorem dX8_boiler_90 : decode cX8_boiler 90 = .ok (.getfield 216, 3) := by decide +kernel
theorem dX8_boiler_93 : decode cX8_boiler 93 = .ok (.ireturn, 1) := by decide +kernel
theorem dX8_boiler_94 : decode cX8_boiler 94 = .ok (.aload_n 0, 1) := by decide +kernel
theorem dX8_boiler_95 : decode cX8_boiler 95 = .ok (.getfield 10, 3) := by decide +kernel
theorem dX8_boiler_98 : decode cX8_boiler 98 = .ok (.getfield 219, 3) := by decide +kernel
theorem dX8_boiler_101 : decode cX8_boiler 101 = .ok (.ireturn, 1) := by decide +kernel
theorem dX8_boiler_102 : decode cX8_boiler 102 = .ok (.aload_n 0, 1) := by decide +kernel
theorem dX8_boiler_103 : decode cX8_boiler 103 = .ok (.getfield 10, 3) := by decide +kernel
theorem dX8_boiler_106 : decode cX8_boiler 106 = .ok (.invokevirtual 222, 3) := by decide +kernel
theorem dX8_boiler_109 : decode cX8_boiler 109 = .ok (.ireturn, 1) := by decide +kernel
theorem dX8_boiler_110 : decode cX8_boiler 110 = .ok (.aload_n 0, 1) := by decide +kernel
theorem dX8_boiler_111 : decode cX8_boiler 111 = .ok (.getfield 10, 3) := by decide +kernel
theorem dX8_boiler_114 : decode cX8_boiler 114 = .ok (.getfield 77, 3) := by decide +kernel
theorem dX8_boiler_117 : decode cX8_boiler 117 = .ok (.iconst 3, 1) := by decide +kernel
theorem dX8_boiler_118 : decode cX8_boiler 118 = .ok (.iaload, 1) := by decide +kernel
theorem dX8_boiler_119 : decode cX8_boiler 119 = .ok (.ireturn, 1) := by decide +kernel
theorem dX8_boiler_120 : decode cX8_boiler 120 = .ok (.bipush (-2), 2) := by decide +kernel
theorem dX8_boiler_122 : decode cX8_boiler 122 = .ok (.ireturn, 1) := by decide +kernel
theorem dX8_heatNext_0 : decode cX8_heatNext 0 = .ok (.aload_n 0, 1) := by decide +kernel
theorem dX8_heatNext_1 : decode cX8_heatNext 1 = .ok (.getfield 10, 3) := by decide +kernel
theorem dX8_heatNext_4 : decode cX8_heatNext 4 = .ok (.iload_n 1, 1) := by decide +kernel
theorem dX8_heatNext_5 : decode cX8_heatNext 5 = .ok (.invokevirtual 102, 3) := by decide +kernel
theorem dX8_heatNext_8 : decode cX8_heatNext 8 = .ok (.ifCond .ne 5, 3) := by decide +kernel
theorem dX8_heatNext_11 : decode cX8_heatNext 11 = .ok (.iconst (-1), 1) := by decide +kernel
theorem dX8_heatNext_12 : decode cX8_heatNext 12 = .ok (.ireturn, 1) := by decide +kernel
theorem dX8_heatNext_13 : decode cX8_heatNext 13 = .ok (.aload_n 0, 1) := by decide +kernel
theorem dX8_heatNext_14 : decode cX8_heatNext 14 = .ok (.getfield 10, 3) := by decide +kernel
theorem dX8_heatNext_17 : decode cX8_heatNext 17 = .ok (.getfield 80, 3) := by decide +kernel
theorem dX8_heatNext_20 : decode cX8_heatNext 20 = .ok (.ifCond .ne 5, 3) := by decide +kernel
theorem dX8_heatNext_23 : decode cX8_heatNext 23 = .ok (.iconst 0, 1) := by decide +kernel
theorem dX8_heatNext_24 : decode cX8_heatNext 24 = .ok (.ireturn, 1) := by decide +kernel
theorem dX8_heatNext_25 : decode cX8_heatNext 25 = .ok (.aload_n 0, 1) := by decide +kernel
theorem dX8_heatNext_26 : decode cX8_heatNext 26 = .ok (.getfield 10, 3) := by decide +kernel
theorem dX8_heatNext_29 : decode cX8_heatNext 29 = .ok (.aload_n 0, 1) := by decide +kernel
theorem dX8_heatNext_30 : decode cX8_heatNext 30 = .ok (.getfield 32, 3) := by decide +kernel
theorem dX8_heatNext_33 : decode cX8_heatNext 33 = .ok (.invokevirtual 225, 3) := by decide +kernel
theorem dX8_heatNext_36 : decode cX8_heatNext 36 = .ok (.aload_n 0, 1) := by decide +kernel
theorem dX8_heatNext_37 : decode cX8_heatNext 37 = .ok (.getfield 32, 3) := by decide +kernel
theorem dX8_heatNext_40 : decode cX8_heatNext 40 = .ok (.getfield 229, 3) := by decide +kernel
theorem dX8_heatNext_43 : decode cX8_heatNext 43 = .ok (.iload_n 1, 1) := by decide +kernel
theorem dX8_heatNext_44 : decode cX8_heatNext 44 = .ok (.iaload, 1) := by decide +kernel
theorem dX8_heatNext_45 : decode cX8_heatNext 45 = .ok (.ireturn, 1) := by decide +kernel
theorem dX8_lease_0 : decode cX8_lease 0 = .ok (.iload_n 1, 1) := by decide +kernel
theorem dX8_lease_1 : decode cX8_lease 1 = .ok (.iconst 0, 1) := by decide +kernel
theorem dX8_lease_2 : decode cX8_lease 2 = .ok (.aload_n 0, 1) := by decide +kernel
theorem dX8_lease_3 : decode cX8_lease 3 = .ok (.getfield 10, 3) := by decide +kernel
theorem dX8_lease_6 : decode cX8_lease 6 = .ok (.getfield 167, 3) := by decide +kernel
theorem dX8_lease_9 : decode cX8_lease 9 = .ok (.iconst 1, 1) := by decide +kernel
theorem dX8_lease_10 : decode cX8_lease 10 = .ok (.isub, 1) := by decide +kernel
theorem dX8_lease_11 : decode cX8_lease 11 = .ok (.invokestatic 47, 3) := by decide +kernel
theorem dX8_lease_14 : decode cX8_lease 14 = .ok (.ifCond .eq 19, 3) := by decide +kernel
theorem dX8_lease_17 : decode cX8_lease 17 = .ok (.aload_n 0, 1) := by decide +kernel
theorem dX8_lease_18 : decode cX8_lease 18 = .ok (.getfield 10, 3) := by decide +kernel
theorem dX8_lease_21 : decode cX8_lease 21 = .ok (.getfield 232, 3) := by decide +kernel
theorem dX8_lease_24 : decode cX8_lease 24 = .ok (.iload_n 1, 1) := by decide +kernel
theorem dX8_lease_25 : decode cX8_lease 25 = .ok (.aaload, 1) := by decide +kernel
theorem dX8_lease_26 : decode cX8_lease 26 = .ok (.iload_n 2, 1) := by decide +kernel
theorem dX8_lease_27 : decode cX8_lease 27 = .ok (.invokevirtual 236, 3) := by decide +kernel
theorem dX8_lease_30 : decode cX8_lease 30 = .ok (.goto 4, 3) := by decide +kernel
theorem dX8_lease_33 : decode cX8_lease 33 = .ok (.iconst (-1), 1) := by decide +kernel
theorem dX8_lease_34 : decode cX8_lease 34 = .ok (.ireturn, 1) := by decide +kernel
theorem dX8_ask_0 : decode cX8_ask 0 = .ok (.aload_n 0, 1) := by decide +kernel
theorem dX8_ask_1 : decode cX8_ask 1 = .ok (.getfield 10, 3) := by decide +kernel
theorem dX8_ask_4 : decode cX8_ask 4 = .ok (.iload_n 1, 1) := by decide +kernel
theorem dX8_ask_5 : decode cX8_ask 5 = .ok (.invokevirtual 102, 3) := by decide +kernel
theorem dX8_ask_8 : decode cX8_ask 8 = .ok (.ifCond .ne 5, 3) := by decide +kernel
theorem dX8_ask_11 : decode cX8_ask 11 = .ok (.iconst (-1), 1) := by decide +kernel
theorem dX8_ask_12 : decode cX8_ask 12 = .ok (.ireturn, 1) := by decide +kernel
theorem dX8_ask_13 : decode cX8_ask 13 = .ok (.iload_n 2, 1) := by decide +kernel
theorem dX8_ask_14 : decode cX8_ask 14 = .ok (.iconst 1, 1) := by decide +kernel
theorem dX8_ask_15 : decode cX8_ask 15 = .ok (.bipush 20, 2) := by decide +kernel
theorem dX8_ask_17 : decode cX8_ask 17 = .ok (.invokestatic 47, 3) := by decide +kernel
theorem dX8_ask_20 : decode cX8_ask 20 = .ok (.ifCond .ne 6, 3) := by decide +kernel
theorem dX8_ask_23 : decode cX8_ask 23 = .ok (.bipush (-2), 2) := by decide +kernel
theorem dX8_ask_25 : decode cX8_ask 25 = .ok (.ireturn, 1) := by decide +kernel
theorem dX8_ask_26 : decode cX8_ask 26 = .ok (.aload_n 0, 1) := by decide +kernel
theorem dX8_ask_27 : decode cX8_ask 27 = .ok (.getfield 10, 3) := by decide +kernel
theorem dX8_ask_30 : decode cX8_ask 30 = .ok (.iload_n 1, 1) := by decide +kernel
theorem dX8_ask_31 : decode cX8_ask 31 = .ok (.invokevirtual 155, 3) := by decide +kernel
theorem dX8_ask_34 : decode cX8_ask 34 = .ok (.iload_n 2, 1) := by decide +kernel
theorem dX8_ask_35 : decode cX8_ask 35 = .ok (.if_icmp .ge 8, 3) := by decide +kernel
theorem dX8_ask_38 : decode cX8_ask 38 = .ok (.bipush (-4), 2) := by decide +kernel
theorem dX8_ask_40 : decode cX8_ask 40 = .ok (.goto 12, 3) := by decide +kernel
theorem dX8_ask_43 : decode cX8_ask 43 = .ok (.aload_n 0, 1) := by decide +kernel
theorem dX8_ask_44 : decode cX8_ask 44 = .ok (.getfield 10, 3) := by decide +kernel
theorem dX8_ask_47 : decode cX8_ask 47 = .ok (.iload_n 1, 1) := by decide +kernel
theorem dX8_ask_48 : decode cX8_ask 48 = .ok (.iload_n 2, 1) := by decide +kernel
theorem dX8_ask_49 : decode cX8_ask 49 = .ok (.invokevirtual 170, 3) := by decide +kernel
theorem dX8_ask_52 : decode cX8_ask 52 = .ok (.ireturn, 1) := by decide +kernel
theorem dX8_overIn_0 : decode cX8_overIn 0 = .ok (.aload_n 0, 1) := by decide +kernel
theorem dX8_overIn_1 : decode cX8_overIn 1 = .ok (.getfield 10, 3) := by decide +kernel
theorem dX8_overIn_4 : decode cX8_overIn 4 = .ok (.iload_n 1, 1) := by decide +kernel
theorem dX8_overIn_5 : decode cX8_overIn 5 = .ok (.invokevirtual 102, 3) := by decide +kernel
theorem dX8_overIn_8 : decode cX8_overIn 8 = .ok (.ifCond .ne 5, 3) := by decide +kernel
theorem dX8_overIn_11 : decode cX8_overIn 11 = .ok (.iconst (-1), 1) := by decide +kernel
theorem dX8_overIn_12 : decode cX8_overIn 12 = .ok (.ireturn, 1) := by decide +kernel
theorem dX8_overIn_13 : decode cX8_overIn 13 = .ok (.aload_n 0, 1) := by decide +kernel
theorem dX8_overIn_14 : decode cX8_overIn 14 = .ok (.getfield 10, 3) := by decide +kernel
theorem dX8_overIn_17 : decode cX8_overIn 17 = .ok (.iload_n 1, 1) := by decide +kernel
theorem dX8_overIn_18 : decode cX8_overIn 18 = .ok (.invokevirtual 120, 3) := by decide +kernel
theorem dX8_overIn_21 : decode cX8_overIn 21 = .ok (.getfield 124, 3) := by decide +kernel
theorem dX8_overIn_24 : decode cX8_overIn 24 = .ok (.iconst 1, 1) := by decide +kernel
theorem dX8_overIn_25 : decode cX8_overIn 25 = .ok (.if_icmp .eq 6, 3) := by decide +kernel
theorem dX8_overIn_28 : decode cX8_overIn 28 = .ok (.bipush (-4), 2) := by decide +kernel
theorem dX8_overIn_30 : decode cX8_overIn 30 = .ok (.ireturn, 1) := by decide +kernel
theorem dX8_overIn_31 : decode cX8_overIn 31 = .ok (.aload_n 0, 1) := by decide +kernel
theorem dX8_overIn_32 : decode cX8_overIn 32 = .ok (.getfield 16, 3) := by decide +kernel
theorem dX8_overIn_35 : decode cX8_overIn 35 = .ok (.aload_n 0, 1) := by decide +kernel
theorem dX8_overIn_36 : decode cX8_overIn 36 = .ok (.getfield 10, 3) := by decide +kernel
theorem dX8_overIn_39 : decode cX8_overIn 39 = .ok (.invokevirtual 193, 3) := by decide +kernel
theorem dX8_overIn_42 : decode cX8_overIn 42 = .ok (.aload_n 0, 1) := by decide +kernel
theorem dX8_overIn_43 : decode cX8_overIn 43 = .ok (.getfield 16, 3) := by decide +kernel
theorem dX8_overIn_46 : decode cX8_overIn 46 = .ok (.iload_n 1, 1) := by decide +kernel
theorem dX8_overIn_47 : decode cX8_overIn 47 = .ok (.invokevirtual 120, 3) := by decide +kernel
theorem dX8_overIn_50 : decode cX8_overIn 50 = .ok (.astore_n 2, 1) := by decide +kernel
theorem dX8_overIn_51 : decode cX8_overIn 51 = .ok (.iconst 0, 1) := by decide +kernel
theorem dX8_overIn_52 : decode cX8_overIn 52 = .ok (.istore_n 3, 1) := by decide +kernel
theorem dX8_overIn_53 : decode cX8_overIn 53 = .ok (.iload_n 3, 1) := by decide +kernel
theorem dX8_overIn_54 : decode cX8_overIn 54 = .ok (.sipush 600, 3) := by decide +kernel
theorem dX8_overIn_57 : decode cX8_overIn 57 = .ok (.if_icmp .ge 29, 3) := by decide +kernel
theorem dX8_overIn_60 : decode cX8_overIn 60 = .ok (.aload_n 2, 1) := by decide +kernel
theorem dX8_overIn_61 : decode cX8_overIn 61 = .ok (.getfield 124, 3) := by decide +kernel
theorem dX8_overIn_64 : decode cX8_overIn 64 = .ok (.iconst 1, 1) := by decide +kernel
theorem dX8_overIn_65 : decode cX8_overIn 65 = .ok (.if_icmp .ne 21, 3) := by decide +kernel
theorem dX8_overIn_68 : decode cX8_overIn 68 = .ok (.aload_n 0, 1) := by decide +kernel
theorem dX8_overIn_69 : decode cX8_overIn 69 = .ok (.getfield 16, 3) := by decide +kernel
theorem dX8_overIn_72 : decode cX8_overIn 72 = .ok (.aload_n 0, 1) := by decide +kernel
theorem dX8_overIn_73 : decode cX8_overIn 73 = .ok (.getfield 32, 3) := by decide +kernel
theorem dX8_overIn_76 : decode cX8_overIn 76 = .ok (.invokevirtual 91, 3) := by decide +kernel
theorem dX8_overIn_79 : decode cX8_overIn 79 = .ok (.pop, 1) := by decide +kernel
theorem dX8_overIn_80 : decode cX8_overIn 80 = .ok (.iinc 3 1, 3) := by decide +kernel
theorem dX8_overIn_83 : decode cX8_overIn 83 = .ok (.goto (-30), 3) := by decide +kernel
theorem dX8_overIn_86 : decode cX8_overIn 86 = .ok (.aload_n 2, 1) := by decide +kernel
theorem dX8_overIn_87 : decode cX8_overIn 87 = .ok (.getfield 124, 3) := by decide +kernel
theorem dX8_overIn_90 : decode cX8_overIn 90 = .ok (.ifCond .ne 7, 3) := by decide +kernel
theorem dX8_overIn_93 : decode cX8_overIn 93 = .ok (.iload_n 3, 1) := by decide +kernel
theorem dX8_overIn_94 : decode cX8_overIn 94 = .ok (.goto 5, 3) := by decide +kernel
theorem dX8_overIn_97 : decode cX8_overIn 97 = .ok (.bipush (-5), 2) := by decide +kernel
theorem dX8_overIn_99 : decode cX8_overIn 99 = .ok (.ireturn, 1) := by decide +kernel
theorem dX8_freeIn_0 : decode cX8_freeIn 0 = .ok (.aload_n 0, 1) := by decide +kernel
theorem dX8_freeIn_1 : decode cX8_freeIn 1 = .ok (.getfield 10, 3) := by decide +kernel
theorem dX8_freeIn_4 : decode cX8_freeIn 4 = .ok (.iload_n 1, 1) := by decide +kernel
theorem dX8_freeIn_5 : decode cX8_freeIn 5 = .ok (.invokevirtual 102, 3) := by decide +kernel
theorem dX8_freeIn_8 : decode cX8_freeIn 8 = .ok (.ifCond .ne 5, 3) := by decide +kernel
theorem dX8_freeIn_11 : decode cX8_freeIn 11 = .ok (.iconst (-1), 1) := by decide +kernel
theorem dX8_freeIn_12 : decode cX8_freeIn 12 = .ok (.ireturn, 1) := by decide +kernel
theorem dX8_freeIn_13 : decode cX8_freeIn 13 = .ok (.aload_n 0, 1) := by decide +kernel
theorem dX8_freeIn_14 : decode cX8_freeIn 14 = .ok (.getfield 16, 3) := by decide +kernel
theorem dX8_freeIn_17 : decode cX8_freeIn 17 = .ok (.aload_n 0, 1) := by decide +kernel
theorem dX8_freeIn_18 : decode cX8_freeIn 18 = .ok (.getfield 10, 3) := by decide +kernel
theorem dX8_freeIn_21 : decode cX8_freeIn 21 = .ok (.invokevirtual 193, 3) := by decide +kernel
theorem dX8_freeIn_24 : decode cX8_freeIn 24 = .ok (.aload_n 0, 1) := by decide +kernel
theorem dX8_freeIn_25 : decode cX8_freeIn 25 = .ok (.getfield 16, 3) := by decide +kernel
theorem dX8_freeIn_28 : decode cX8_freeIn 28 = .ok (.iload_n 1, 1) := by decide +kernel
theorem dX8_freeIn_29 : decode cX8_freeIn 29 = .ok (.invokevirtual 120, 3) := by decide +kernel
theorem dX8_freeIn_32 : decode cX8_freeIn 32 = .ok (.astore_n 2, 1) := by decide +kernel
theorem dX8_freeIn_33 : decode cX8_freeIn 33 = .ok (.iconst 0, 1) := by decide +kernel
theorem dX8_freeIn_34 : decode cX8_freeIn 34 = .ok (.istore_n 3, 1) := by decide +kernel
theorem dX8_freeIn_35 : decode cX8_freeIn 35 = .ok (.iload_n 3, 1) := by decide +kernel
theorem dX8_freeIn_36 : decode cX8_freeIn 36 = .ok (.sipush 600, 3) := by decide +kernel
theorem dX8_freeIn_39 : decode cX8_freeIn 39 = .ok (.if_icmp .ge 29, 3) := by decide +kernel
theorem dX8_freeIn_42 : decode cX8_freeIn 42 = .ok (.aload_n 2, 1) := by decide +kernel
theorem dX8_freeIn_43 : decode cX8_freeIn 43 = .ok (.getfield 149, 3) := by decide +kernel
theorem dX8_freeIn_46 : decode cX8_freeIn 46 = .ok (.iconst 2, 1) := by decide +kernel
theorem dX8_freeIn_47 : decode cX8_freeIn 47 = .ok (.if_icmp .ne 21, 3) := by decide +kernel
theorem dX8_freeIn_50 : decode cX8_freeIn 50 = .ok (.aload_n 0, 1) := by decide +kernel
theorem dX8_freeIn_51 : decode cX8_freeIn 51 = .ok (.getfield 16, 3) := by decide +kernel
theorem dX8_freeIn_54 : decode cX8_freeIn 54 = .ok (.aload_n 0, 1) := by decide +kernel
theorem dX8_freeIn_55 : decode cX8_freeIn 55 = .ok (.getfield 32, 3) := by decide +kernel
theorem dX8_freeIn_58 : decode cX8_freeIn 58 = .ok (.invokevirtual 91, 3) := by decide +kernel
theorem dX8_freeIn_61 : decode cX8_freeIn 61 = .ok (.pop, 1) := by decide +kernel
theorem dX8_freeIn_62 : decode cX8_freeIn 62 = .ok (.iinc 3 1, 3) := by decide +kernel
theorem dX8_freeIn_65 : decode cX8_freeIn 65 = .ok (.goto (-30), 3) := by decide +kernel
theorem dX8_freeIn_68 : decode cX8_freeIn 68 = .ok (.aload_n 2, 1) := by decide +kernel
theorem dX8_freeIn_69 : decode cX8_freeIn 69 = .ok (.getfield 149, 3) := by decide +kernel
theorem dX8_freeIn_72 : decode cX8_freeIn 72 = .ok (.iconst 2, 1) := by decide +kernel
theorem dX8_freeIn_73 : decode cX8_freeIn 73 = .ok (.if_icmp .ne 8, 3) := by decide +kernel
theorem dX8_freeIn_76 : decode cX8_freeIn 76 = .ok (.bipush (-5), 2) := by decide +kernel
theorem dX8_freeIn_78 : decode cX8_freeIn 78 = .ok (.goto 4, 3) := by decide +kernel
theorem dX8_freeIn_81 : decode cX8_freeIn 81 = .ok (.iload_n 3, 1) := by decide +kernel
theorem dX8_freeIn_82 : decode cX8_freeIn 82 = .ok (.ireturn, 1) := by decide +kernel
theorem dX8_count_0 : decode cX8_count 0 = .ok (.iload_n 1, 1) := by decide +kernel
theorem dX8_count_1 : decode cX8_count 1 = .ok (.lookupswitch 43 #[(13, 27), (14, 35)], 27) := by decide +kernel
theorem dX8_count_28 : decode cX8_count 28 = .ok (.aload_n 0, 1) := by decide +kernel
theorem dX8_count_29 : decode cX8_count 29 = .ok (.getfield 25, 3) := by decide +kernel
theorem dX8_count_32 : decode cX8_count 32 = .ok (.getfield 190, 3) := by decide +kernel
theorem dX8_count_35 : decode cX8_count 35 = .ok (.ireturn, 1) := by decide +kernel
theorem dX8_count_36 : decode cX8_count 36 = .ok (.aload_n 0, 1) := by decide +kernel
theorem dX8_count_37 : decode cX8_count 37 = .ok (.getfield 39, 3) := by decide +kernel
theorem dX8_count_40 : decode cX8_count 40 = .ok (.getfield 99, 3) := by decide +kernel
theorem dX8_count_43 : decode cX8_count 43 = .ok (.ireturn, 1) := by decide +kernel
theorem dX8_count_44 : decode cX8_count 44 = .ok (.aload_n 0, 1) := by decide +kernel
theorem dX8_count_45 : decode cX8_count 45 = .ok (.getfield 10, 3) := by decide +kernel
theorem dX8_count_48 : decode cX8_count 48 = .ok (.iload_n 1, 1) := by decide +kernel
theorem dX8_count_49 : decode cX8_count 49 = .ok (.invokevirtual 239, 3) := by decide +kernel
theorem dX8_count_52 : decode cX8_count 52 = .ok (.ireturn, 1) := by decide +kernel
theorem dX8_isWithin_0 : decode cX8_isWithin 0 = .ok (.iload_n 1, 1) := by decide +kernel
theorem dX8_isWithin_1 : decode cX8_isWithin 1 = .ok (.iload_n 0, 1) := by decide +kernel
theorem dX8_isWithin_2 : decode cX8_isWithin 2 = .ok (.if_icmp .gt 12, 3) := by decide +kernel
theorem dX8_isWithin_5 : decode cX8_isWithin 5 = .ok (.iload_n 0, 1) := by decide +kernel
theorem dX8_isWithin_6 : decode cX8_isWithin 6 = .ok (.iload_n 2, 1) := by decide +kernel
theorem dX8_isWithin_7 : decode cX8_isWithin 7 = .ok (.if_icmp .gt 7, 3) := by decide +kernel
theorem dX8_isWithin_10 : decode cX8_isWithin 10 = .ok (.iconst 1, 1) := by decide +kernel
theorem dX8_isWithin_11 : decode cX8_isWithin 11 = .ok (.goto 4, 3) := by decide +kernel
theorem dX8_isWithin_14 : decode cX8_isWithin 14 = .ok (.iconst 0, 1) := by decide +kernel
theorem dX8_isWithin_15 : decode cX8_isWithin 15 = .ok (.ireturn, 1) := by decide +kernel
theorem dX9_init_0 : decode cX9_init 0 = .ok (.aload_n 0, 1) := by decide +kernel
theorem dX9_init_1 : decode cX9_init 1 = .ok (.invokespecial 1, 3) := by decide +kernel
theorem dX9_init_4 : decode cX9_init 4 = .ok (.aload_n 0, 1) := by decide +kernel
theorem dX9_init_5 : decode cX9_init 5 = .ok (.sipush 401, 3) := by decide +kernel
theorem dX9_init_8 : decode cX9_init 8 = .ok (.newarray .int, 2) := by decide +kernel
theorem dX9_init_10 : decode cX9_init 10 = .ok (.putfield 7, 3) := by decide +kernel
theorem dX9_init_13 : decode cX9_init 13 = .ok (.aload_n 0, 1) := by decide +kernel
theorem dX9_init_14 : decode cX9_init 14 = .ok (.sipush 401, 3) := by decide +kernel
theorem dX9_init_17 : decode cX9_init 17 = .ok (.newarray .int, 2) := by decide +kernel
theorem dX9_init_19 : decode cX9_init 19 = .ok (.putfield 13, 3) := by decide +kernel
theorem dX9_init_22 : decode cX9_init 22 = .ok (.aload_n 0, 1) := by decide +kernel
theorem dX9_init_23 : decode cX9_init 23 = .ok (.sipush 401, 3) := by decide +kernel
theorem dX9_init_26 : decode cX9_init 26 = .ok (.newarray .int, 2) := by decide +kernel
theorem dX9_init_28 : decode cX9_init 28 = .ok (.putfield 16, 3) := by decide +kernel
theorem dX9_init_31 : decode cX9_init 31 = .ok (.aload_n 0, 1) := by decide +kernel
theorem dX9_init_32 : decode cX9_init 32 = .ok (.sipush 1604, 3) := by decide +kernel
theorem dX9_init_35 : decode cX9_init 35 = .ok (.newarray .int, 2) := by decide +kernel
theorem dX9_init_37 : decode cX9_init 37 = .ok (.putfield 19, 3) := by decide +kernel
theorem dX9_init_40 : decode cX9_init 40 = .ok (.aload_n 0, 1) := by decide +kernel
theorem dX9_init_41 : decode cX9_init 41 = .ok (.bipush 60, 2) := by decide +kernel
theorem dX9_init_43 : decode cX9_init 43 = .ok (.newarray .int, 2) := by decide +kernel
theorem dX9_init_45 : decode cX9_init 45 = .ok (.putfield 22, 3) := by decide +kernel
theorem dX9_init_48 : decode cX9_init 48 = .ok (.aload_n 0, 1) := by decide +kernel
theorem dX9_init_49 : decode cX9_init 49 = .ok (.bipush 8, 2) := by decide +kernel
theorem dX9_init_51 : decode cX9_init 51 = .ok (.newarray .int, 2) := by decide +kernel
theorem dX9_init_53 : decode cX9_init 53 = .ok (.putfield 25, 3) := by decide +kernel
theorem dX9_init_56 : decode cX9_init 56 = .ok (.aload_n 0, 1) := by decide +kernel
theorem dX9_init_57 : decode cX9_init 57 = .ok (.bipush 8, 2) := by decide +kernel
theorem dX9_init_59 : decode cX9_init 59 = .ok (.newarray .int, 2) := by decide +kernel
theorem dX9_init_61 : decode cX9_init 61 = .ok (.putfield 28, 3) := by decide +kernel
theorem dX9_init_64 : decode cX9_init 64 = .ok (.aload_n 0, 1) := by decide +kernel
theorem dX9_init_65 : decode cX9_init 65 = .ok (.bipush 30, 2) := by decide +kernel
theorem dX9_init_67 : decode cX9_init 67 = .ok (.newarray .int, 2) := by decide +kernel
theorem dX9_init_69 : decode cX9_init 69 = .ok (.putfield 31, 3) := by decide +kernel
theorem dX9_init_72 : decode cX9_init 72 = .ok (.aload_n 0, 1) := by decide +kernel
theorem dX9_init_73 : decode cX9_init 73 = .ok (.bipush 30, 2) := by decide +kernel
theorem dX9_init_75 : decode cX9_init 75 = .ok (.newarray .int, 2) := by decide +kernel
theorem dX9_init_77 : decode cX9_init 77 = .ok (.putfield 34, 3) := by decide +kernel
theorem dX9_init_80 : decode cX9_init 80 = .ok (.aload_n 0, 1) := by decide +kernel
theorem dX9_init_81 : decode cX9_init 81 = .ok (.getfield 7, 3) := by decide +kernel
theorem dX9_init_84 : decode cX9_init 84 = .ok (.iconst 1, 1) := by decide +kernel
theorem dX9_init_85 : decode cX9_init 85 = .ok (.iconst 1, 1) := by decide +kernel
theorem dX9_init_86 : decode cX9_init 86 = .ok (.iastore, 1) := by decide +kernel
theorem dX9_init_87 : decode cX9_init 87 = .ok (.aload_n 0, 1) := by decide +kernel
theorem dX9_init_88 : decode cX9_init 88 = .ok (.getfield 7, 3) := by decide +kernel
theorem dX9_init_91 : decode cX9_init 91 = .ok (.iconst 3, 1) := by decide +kernel
theorem dX9_init_92 : decode cX9_init 92 = .ok (.sipush 20000, 3) := by decide +kernel
theorem dX9_init_95 : decode cX9_init 95 = .ok (.iastore, 1) := by decide +kernel
theorem dX9_init_96 : decode cX9_init 96 = .ok (.aload_n 0, 1) := by decide +kernel
theorem dX9_init_97 : decode cX9_init 97 = .ok (.getfield 7, 3) := by decide +kernel
theorem dX9_init_100 : decode cX9_init 100 = .ok (.iconst 4, 1) := by decide +kernel
theorem dX9_init_101 : decode cX9_init 101 = .ok (.sipush 200, 3) := by decide +kernel
theorem dX9_init_104 : decode cX9_init 104 = .ok (.iastore, 1) := by decide +kernel
theorem dX9_init_105 : decode cX9_init 105 = .ok (.aload_n 0, 1) := by decide +kernel
theorem dX9_init_106 : decode cX9_init 106 = .ok (.getfield 7, 3) := by decide +kernel
theorem dX9_init_109 : decode cX9_init 109 = .ok (.iconst 5, 1) := by decide +kernel
theorem dX9_init_110 : decode cX9_init 110 = .ok (.sipush 300, 3) := by decide +kernel
theorem dX9_init_113 : decode cX9_init 113 = .ok (.iastore, 1) := by decide +kernel
theorem dX9_init_114 : decode cX9_init 114 = .ok (.aload_n 0, 1) := by decide +kernel
theorem dX9_init_115 : decode cX9_init 115 = .ok (.getfield 7, 3) := by decide +kernel
theorem dX9_init_118 : decode cX9_init 118 = .ok (.bipush 6, 2) := by decide +kernel
theorem dX9_init_120 : decode cX9_init 120 = .ok (.bipush 40, 2) := by decide +kernel
theorem dX9_init_122 : decode cX9_init 122 = .ok (.iastore, 1) := by decide +kernel
theorem dX9_init_123 : decode cX9_init 123 = .ok (.aload_n 0, 1) := by decide +kernel
theorem dX9_init_124 : decode cX9_init 124 = .ok (.getfield 7, 3) := by decide +kernel
theorem dX9_init_127 : decode cX9_init 127 = .ok (.bipush 7, 2) := by decide +kernel
theorem dX9_init_129 : decode cX9_init 129 = .ok (.sipush 10000, 3) := by decide +kernel
theorem dX9_init_132 : decode cX9_init 132 = .ok (.iastore, 1) := by decide +kernel
theorem dX9_init_133 : decode cX9_init 133 = .ok (.return_, 1) := by decide +kernel
theorem dX9_copy_0 : decode cX9_copy 0 = .ok (.iconst 0, 1) := by decide +kernel
theorem dX9_copy_1 : decode cX9_copy 1 = .ok (.istore 4, 2) := by decide +kernel
theorem dX9_copy_3 : decode cX9_copy 3 = .ok (.iload 4, 2) := by decide +kernel
theorem dX9_copy_5 : decode cX9_copy 5 = .ok (.sipush 401, 3) := by decide +kernel
theorem dX9_copy_8 : decode cX9_copy 8 = .ok (.if_icmp .ge 21, 3) := by decide +kernel
theorem dX9_copy_11 : decode cX9_copy 11 = .ok (.aload_n 2, 1) := by decide +kernel
theorem dX9_copy_12 : decode cX9_copy 12 = .ok (.iload_n 3, 1) := by decide +kernel
theorem dX9_copy_13 : decode cX9_copy 13 = .ok (.iload 4, 2) := by decide +kernel
theorem dX9_copy_15 : decode cX9_copy 15 = .ok (.iadd, 1) := by decide +kernel
theorem dX9_copy_16 : decode cX9_copy 16 = .ok (.aload_n 0, 1) := by decide +kernel
theorem dX9_copy_17 : decode cX9_copy 17 = .ok (.iload_n 1, 1) := by decide +kernel
theorem dX9_copy_18 : decode cX9_copy 18 = .ok (.iload 4, 2) := by decide +kernel
theorem dX9_copy_20 : decode cX9_copy 20 = .ok (.iadd, 1) := by decide +kernel
theorem dX9_copy_21 : decode cX9_copy 21 = .ok (.iaload, 1) := by decide +kernel
theorem dX9_copy_22 : decode cX9_copy 22 = .ok (.iastore, 1) := by decide +kernel
theorem dX9_copy_23 : decode cX9_copy 23 = .ok (.iinc 4 1, 3) := by decide +kernel
theorem dX9_copy_26 : decode cX9_copy 26 = .ok (.goto (-23), 3) := by decide +kernel
theorem dX9_copy_29 : decode cX9_copy 29 = .ok (.return_, 1) := by decide +kernel
theorem dX9_within_0 : decode cX9_within 0 = .ok (.iload_n 0, 1) := by decide +kernel
theorem dX9_within_1 : decode cX9_within 1 = .ok (.iload_n 1, 1) := by decide +kernel
theorem dX9_within_2 : decode cX9_within 2 = .ok (.if_icmp .lt 12, 3) := by decide +kernel
theorem dX9_within_5 : decode cX9_within 5 = .ok (.iload_n 0, 1) := by decide +kernel
theorem dX9_within_6 : decode cX9_within 6 = .ok (.iload_n 2, 1) := by decide +kernel
theorem dX9_within_7 : decode cX9_within 7 = .ok (.if_icmp .gt 7, 3) := by decide +kernel
theorem dX9_within_10 : decode cX9_within 10 = .ok (.iconst 1, 1) := by decide +kernel
theorem dX9_within_11 : decode cX9_within 11 = .ok (.goto 4, 3) := by decide +kernel
theorem dX9_within_14 : decode cX9_within 14 = .ok (.iconst 0, 1) := by decide +kernel
theorem dX9_within_15 : decode cX9_within 15 = .ok (.ireturn, 1) := by decide +kernel
theorem dX9_record_0 : decode cX9_record 0 = .ok (.aload_n 0, 1) := by decide +kernel
theorem dX9_record_1 : decode cX9_record 1 = .ok (.getfield 37, 3) := by decide +kernel
theorem dX9_record_4 : decode cX9_record 4 = .ok (.iconst 4, 1) := by decide +kernel
theorem dX9_record_5 : decode cX9_record 5 = .ok (.if_icmp .ne 44, 3) := by decide +kernel
theorem dX9_record_8 : decode cX9_record 8 = .ok (.iconst 0, 1) := by decide +kernel
theorem dX9_record_9 : decode cX9_record 9 = .ok (.istore_n 1, 1) := by decide +kernel
theorem dX9_record_10 : decode cX9_record 10 = .ok (.iload_n 1, 1) := by decide +kernel
theorem dX9_record_11 : decode cX9_record 11 = .ok (.sipush 1203, 3) := by decide +kernel
theorem dX9_record_14 : decode cX9_record 14 = .ok (.if_icmp .ge 25, 3) := by decide +kernel
theorem dX9_record_17 : decode cX9_record 17 = .ok (.aload_n 0, 1) := by decide +kernel
theorem dX9_record_18 : decode cX9_record 18 = .ok (.getfield 19, 3) := by decide +kernel
theorem dX9_record_21 : decode cX9_record 21 = .ok (.iload_n 1, 1) := by decide +kernel
theorem dX9_record_22 : decode cX9_record 22 = .ok (.aload_n 0, 1) := by decide +kernel
theorem dX9_record_23 : decode cX9_record 23 = .ok (.getfield 19, 3) := by decide +kernel
theorem dX9_record_26 : decode cX9_record 26 = .ok (.iload_n 1, 1) := by decide +kernel
theorem dX9_record_27 : decode cX9_record 27 = .ok (.sipush 401, 3) := by decide +kernel
theorem dX9_record_30 : decode cX9_record 30 = .ok (.iadd, 1) := by decide +kernel
theorem dX9_record_31 : decode cX9_record 31 = .ok (.iaload, 1) := by decide +kernel
theorem dX9_record_32 : decode cX9_record 32 = .ok (.iastore, 1) := by decide +kernel
theorem dX9_record_33 : decode cX9_record 33 = .ok (.iinc 1 1, 3) := by decide +kernel
theorem dX9_record_36 : decode cX9_record 36 = .ok (.goto (-26), 3) := by decide +kernel
theorem dX9_record_39 : decode cX9_record 39 = .ok (.aload_n 0, 1) := by decide +kernel
theorem dX9_record_40 : decode cX9_record 40 = .ok (.dup, 1) := by decide +kernel
theorem dX9_record_41 : decode cX9_record 41 = .ok (.getfield 37, 3) := by decide +kernel
theorem dX9_record_44 : decode cX9_record 44 = .ok (.iconst 1, 1) := by decide +kernel
theorem dX9_record_45 : decode cX9_record 45 = .ok (.isub, 1) := by decide +kernel
theorem dX9_record_46 : decode cX9_record 46 = .ok (.putfield 37, 3) := by decide +kernel
theorem dX9_record_49 : decode cX9_record 49 = .ok (.aload_n 0, 1) := by decide +kernel
theorem dX9_record_50 : decode cX9_record 50 = .ok (.getfield 7, 3) := by decide +kernel
theorem dX9_record_53 : decode cX9_record 53 = .ok (.iconst 0, 1) := by decide +kernel
theorem dX9_record_54 : decode cX9_record 54 = .ok (.aload_n 0, 1) := by decide +kernel
theorem dX9_record_55 : decode cX9_record 55 = .ok (.getfield 19, 3) := by decide +kernel
theorem dX9_record_58 : decode cX9_record 58 = .ok (.aload_n 0, 1) := by decide +kernel
theorem dX9_record_59 : decode cX9_record 59 = .ok (.getfield 37, 3) := by decide +kernel
theorem dX9_record_62 : decode cX9_record 62 = .ok (.sipush 401, 3) := by decide +kernel
theorem dX9_record_65 : decode cX9_record 65 = .ok (.imul, 1) := by decide +kernel
theorem dX9_record_66 : decode cX9_record 66 = .ok (.invokestatic 41, 3) := by decide +kernel
theorem dX9_record_69 : decode cX9_record 69 = .ok (.aload_n 0, 1) := by decide +kernel
theorem dX9_record_70 : decode cX9_record 70 = .ok (.dup, 1) := by decide +kernel
theorem dX9_record_71 : decode cX9_record 71 = .ok (.getfield 37, 3) := by decide +kernel
theorem dX9_record_74 : decode cX9_record 74 = .ok (.iconst 1, 1) := by decide +kernel
theorem dX9_record_75 : decode cX9_record 75 = .ok (.iadd, 1) := by decide +kernel
theorem dX9_record_76 : decode cX9_record 76 = .ok (.putfield 37, 3) := by decide +kernel
theorem dX9_record_79 : decode cX9_record 79 = .ok (.return_, 1) := by decide +kernel
theorem dX9_isHouse_0 : decode cX9_isHouse 0 = .ok (.iload_n 1, 1) := by decide +kernel
theorem dX9_isHouse_1 : decode cX9_isHouse 1 = .ok (.iconst 0, 1) := by decide +kernel
theorem dX9_isHouse_2 : decode cX9_isHouse 2 = .ok (.aload_n 0, 1) := by decide +kernel
theorem dX9_isHouse_3 : decode cX9_isHouse 3 = .ok (.getfield 7, 3) := by decide +kernel
theorem dX9_isHouse_6 : decode cX9_isHouse 6 = .ok (.iconst 2, 1) := by decide +kernel
theorem dX9_isHouse_7 : decode cX9_isHouse 7 = .ok (.iaload, 1) := by decide +kernel
theorem dX9_isHouse_8 : decode cX9_isHouse 8 = .ok (.iconst 1, 1) := by decide +kernel
theorem dX9_isHouse_9 : decode cX9_isHouse 9 = .ok (.isub, 1) := by decide +kernel
theorem dX9_isHouse_10 : decode cX9_isHouse 10 = .ok (.invokestatic 45, 3) := by decide +kernel
theorem dX9_isHouse_13 : decode cX9_isHouse 13 = .ok (.ireturn, 1) := by decide +kernel
theorem dX9_part_0 : decode cX9_part 0 = .ok (.aload_n 0, 1) := by decide +kernel
theorem dX9_part_1 : decode cX9_part 1 = .ok (.getfield 7, 3) := by decide +kernel
theorem dX9_part_4 : decode cX9_part 4 = .ok (.bipush 15, 2) := by decide +kernel
theorem dX9_part_6 : decode cX9_part 6 = .ok (.bipush 42, 2) := by decide +kernel
theorem dX9_part_8 : decode cX9_part 8 = .ok (.iload_n 1, 1) := by decide +kernel
theorem dX9_part_9 : decode cX9_part 9 = .ok (.imul, 1) := by decide +kernel
theorem dX9_part_10 : decode cX9_part 10 = .ok (.iadd, 1) := by decide +kernel
theorem dX9_part_11 : decode cX9_part 11 = .ok (.iload_n 2, 1) := by decide +kernel
theorem dX9_part_12 : decode cX9_part 12 = .ok (.iadd, 1) := by decide +kernel
theorem dX9_part_13 : decode cX9_part 13 = .ok (.iaload, 1) := by decide +kernel
theorem dX9_part_14 : decode cX9_part 14 = .ok (.ireturn, 1) := by decide +kernel
theorem dX9_setPart_0 : decode cX9_setPart 0 = .ok (.aload_n 0, 1) := by decide +kernel
theorem dX9_setPart_1 : decode cX9_setPart 1 = .ok (.getfield 7, 3) := by decide +kernel
theorem dX9_setPart_4 : decode cX9_setPart 4 = .ok (.bipush 15, 2) := by decide +kernel
theorem dX9_setPart_6 : decode cX9_setPart 6 = .ok (.bipush 42, 2) := by decide +kernel
theorem dX9_setPart_8 : decode cX9_setPart 8 = .ok (.iload_n 1, 1) := by decide +kernel
theorem dX9_setPart_9 : decode cX9_setPart 9 = .ok (.imul, 1) := by decide +kernel
theorem dX9_setPart_10 : decode cX9_setPart 10 = .ok (.iadd, 1) := by decide +kernel
theorem dX9_setPart_11 : decode cX9_setPart 11 = .ok (.iload_n 2, 1) := by decide +kernel
theorem dX9_setPart_12 : decode cX9_setPart 12 = .ok (.iadd, 1) := by decide +kernel
theorem dX9_setPart_13 : decode cX9_setPart 13 = .ok (.iload_n 3, 1) := by decide +kernel
theorem dX9_setPart_14 : decode cX9_setPart 14 = .ok (.iastore, 1) := by decide +kernel
theorem dX9_setPart_15 : decode cX9_setPart 15 = .ok (.return_, 1) := by decide +kernel
theorem dX9_addPart_0 : decode cX9_addPart 0 = .ok (.aload_n 0, 1) := by decide +kernel
theorem dX9_addPart_1 : decode cX9_addPart 1 = .ok (.getfield 7, 3) := by decide +kernel
theorem dX9_addPart_4 : decode cX9_addPart 4 = .ok (.bipush 15, 2) := by decide +kernel
theorem dX9_addPart_6 : decode cX9_addPart 6 = .ok (.bipush 42, 2) := by decide +kernel
theorem dX9_addPart_8 : decode cX9_addPart 8 = .ok (.iload_n 1, 1) := by decide +kernel
theorem dX9_addPart_9 : decode cX9_addPart 9 = .ok (.imul, 1) := by decide +kernel
theorem dX9_addPart_10 : decode cX9_addPart 10 = .ok (.iadd, 1) := by decide +kernel
theorem dX9_addPart_11 : decode cX9_addPart 11 = .ok (.iload_n 2, 1) := by decide +kernel
theorem dX9_addPart_12 : decode cX9_addPart 12 = .ok (.iadd, 1) := by decide +kernel
theorem dX9_addPart_13 : decode cX9_addPart 13 = .ok (.dup2, 1) := by decide +kernel
theorem dX9_addPart_14 : decode cX9_addPart 14 = .ok (.iaload, 1) := by decide +kernel
theorem dX9_addPart_15 : decode cX9_addPart 15 = .ok (.iload_n 3, 1) := by decide +kernel
theorem dX9_addPart_16 : decode cX9_addPart 16 = .ok (.iadd, 1) := by decide +kernel
theorem dX9_addPart_17 : decode cX9_addPart 17 = .ok (.iastore, 1) := by decide +kernel
theorem dX9_addPart_18 : decode cX9_addPart 18 = .ok (.return_, 1) := by decide +kernel
theorem dX9_leasePart_0 : decode cX9_leasePart 0 = .ok (.aload_n 0, 1) := by decide +kernel
theorem dX9_leasePart_1 : decode cX9_leasePart 1 = .ok (.getfield 7, 3) := by decide +kernel
theorem dX9_leasePart_4 : decode cX9_leasePart 4 = .ok (.sipush 351, 3) := by decide +kernel
theorem dX9_leasePart_7 : decode cX9_leasePart 7 = .ok (.iconst 5, 1) := by decide +kernel
theorem dX9_leasePart_8 : decode cX9_leasePart 8 = .ok (.iload_n 1, 1) := by decide +kernel
theorem dX9_leasePart_9 : decode cX9_leasePart 9 = .ok (.imul, 1) := by decide +kernel
theorem dX9_leasePart_10 : decode cX9_leasePart 10 = .ok (.iadd, 1) := by decide +kernel
theorem dX9_leasePart_11 : decode cX9_leasePart 11 = .ok (.iload_n 2, 1) := by decide +kernel
theorem dX9_leasePart_12 : decode cX9_leasePart 12 = .ok (.iadd, 1) := by decide +kernel
theorem dX9_leasePart_13 : decode cX9_leasePart 13 = .ok (.iaload, 1) := by decide +kernel
theorem dX9_leasePart_14 : decode cX9_leasePart 14 = .ok (.ireturn, 1) := by decide +kernel
theorem dX9_temperature_0 : decode cX9_temperature 0 = .ok (.aload_n 0, 1) := by decide +kernel
theorem dX9_temperature_1 : decode cX9_temperature 1 = .ok (.iload_n 1, 1) := by decide +kernel
theorem dX9_temperature_2 : decode cX9_temperature 2 = .ok (.bipush 11, 2) := by decide +kernel
theorem dX9_temperature_4 : decode cX9_temperature 4 = .ok (.invokevirtual 49, 3) := by decide +kernel
theorem dX9_temperature_7 : decode cX9_temperature 7 = .ok (.ifCond .ne 8, 3) := by decide +kernel
theorem dX9_temperature_10 : decode cX9_temperature 10 = .ok (.bipush 15, 2) := by decide +kernel
theorem dX9_temperature_12 : decode cX9_temperature 12 = .ok (.goto 20, 3) := by decide +kernel
theorem dX9_temperature_15 : decode cX9_temperature 15 = .ok (.aload_n 0, 1) := by decide +kernel
theorem dX9_temperature_16 : decode cX9_temperature 16 = .ok (.iload_n 1, 1) := by decide +kernel
theorem dX9_temperature_17 : decode cX9_temperature 17 = .ok (.bipush 12, 2) := by decide +kernel
theorem dX9_temperature_19 : decode cX9_temperature 19 = .ok (.invokevirtual 49, 3) := by decide +kernel
theorem dX9_temperature_22 : decode cX9_temperature 22 = .ok (.iconst 4, 1) := by decide +kernel
theorem dX9_temperature_23 : decode cX9_temperature 23 = .ok (.aload_n 0, 1) := by decide +kernel
theorem dX9_temperature_24 : decode cX9_temperature 24 = .ok (.iload_n 1, 1) := by decide +kernel
theorem dX9_temperature_25 : decode cX9_temperature 25 = .ok (.bipush 11, 2) := by decide +kernel
theorem dX9_temperature_27 : decode cX9_temperature 27 = .ok (.invokevirtual 49, 3) := by decide +kernel
theorem dX9_temperature_30 : decode cX9_temperature 30 = .ok (.imul, 1) := by decide +kernel
theorem dX9_temperature_31 : decode cX9_temperature 31 = .ok (.idiv, 1) := by decide +kernel
theorem dX9_temperature_32 : decode cX9_temperature 32 = .ok (.ireturn, 1) := by decide +kernel
theorem dX9_lent_0 : decode cX9_lent 0 = .ok (.iconst 0, 1) := by decide +kernel
theorem dX9_lent_1 : decode cX9_lent 1 = .ok (.istore_n 2, 1) := by decide +kernel
theorem dX9_lent_2 : decode cX9_lent 2 = .ok (.iconst 0, 1) := by decide +kernel
theorem dX9_lent_3 : decode cX9_lent 3 = .ok (.istore_n 3, 1) := by decide +kernel
theorem dX9_lent_4 : decode cX9_lent 4 = .ok (.iload_n 3, 1) := by decide +kernel
theorem dX9_lent_5 : decode cX9_lent 5 = .ok (.aload_n 0, 1) := by decide +kernel
theorem dX9_lent_6 : decode cX9_lent 6 = .ok (.getfield 7, 3) := by decide +kernel
theorem dX9_lent_9 : decode cX9_lent 9 = .ok (.bipush 8, 2) := by decide +kernel
theorem dX9_lent_11 : decode cX9_lent 11 = .ok (.iaload, 1) := by decide +kernel
theorem dX9_lent_12 : decode cX9_lent 12 = .ok (.if_icmp .ge 32, 3) := by decide +kernel
theorem dX9_lent_15 : decode cX9_lent 15 = .ok (.iload_n 2, 1) := by decide +kernel
theorem dX9_lent_16 : decode cX9_lent 16 = .ok (.aload_n 0, 1) := by decide +kernel
theorem dX9_lent_17 : decode cX9_lent 17 = .ok (.iload_n 3, 1) := by decide +kernel
theorem dX9_lent_18 : decode cX9_lent 18 = .ok (.iconst 0, 1) := by decide +kernel
theorem dX9_lent_19 : decode cX9_lent 19 = .ok (.invokevirtual 53, 3) := by decide +kernel
theorem dX9_lent_22 : decode cX9_lent 22 = .ok (.iload_n 1, 1) := by decide +kernel
theorem dX9_lent_23 : decode cX9_lent 23 = .ok (.if_icmp .ne 12, 3) := by decide +kernel
theorem dX9_lent_26 : decode cX9_lent 26 = .ok (.aload_n 0, 1) := by decide +kernel
theorem dX9_lent_27 : decode cX9_lent 27 = .ok (.iload_n 3, 1) := by decide +kernel
theorem dX9_lent_28 : decode cX9_lent 28 = .ok (.iconst 2, 1) := by decide +kernel
theorem dX9_lent_29 : decode cX9_lent 29 = .ok (.invokevirtual 53, 3) := by decide +kernel
theorem dX9_lent_32 : decode cX9_lent 32 = .ok (.goto 4, 3) := by decide +kernel
theorem dX9_lent_35 : decode cX9_lent 35 = .ok (.iconst 0, 1) := by decide +kernel
theorem dX9_lent_36 : decode cX9_lent 36 = .ok (.iadd, 1) := by decide +kernel
theorem dX9_lent_37 : decode cX9_lent 37 = .ok (.istore_n 2, 1) := by decide +kernel
theorem dX9_lent_38 : decode cX9_lent 38 = .ok (.iinc 3 1, 3) := by decide +kernel
theorem dX9_lent_41 : decode cX9_lent 41 = .ok (.goto (-37), 3) := by decide +kernel
theorem dX9_lent_44 : decode cX9_lent 44 = .ok (.iload_n 2, 1) := by decide +kernel
theorem dX9_lent_45 : decode cX9_lent 45 = .ok (.ireturn, 1) := by decide +kernel
theorem dX9_sharesOf_0 : decode cX9_sharesOf 0 = .ok (.aload_n 0, 1) := by decide +kernel
theorem dX9_sharesOf_1 : decode cX9_sharesOf 1 = .ok (.iload_n 1, 1) := by decide +kernel
theorem dX9_sharesOf_2 : decode cX9_sharesOf 2 = .ok (.iconst 0, 1) := by decide +kernel
theorem dX9_sharesOf_3 : decode cX9_sharesOf 3 = .ok (.invokevirtual 49, 3) := by decide +kernel
theorem dX9_sharesOf_6 : decode cX9_sharesOf 6 = .ok (.aload_n 0, 1) := by decide +kernel
theorem dX9_sharesOf_7 : decode cX9_sharesOf 7 = .ok (.iload_n 1, 1) := by decide +kernel
theorem dX9_sharesOf_8 : decode cX9_sharesOf 8 = .ok (.invokevirtual 56, 3) := by decide +kernel
theorem dX9_sharesOf_11 : decode cX9_sharesOf 11 = .ok (.isub, 1) := by decide +kernel
theorem dX9_sharesOf_12 : decode cX9_sharesOf 12 = .ok (.istore_n 2, 1) := by decide +kernel
theorem dX9_sharesOf_13 : decode cX9_sharesOf 13 = .ok (.iconst 0, 1) := by decide +kernel
theorem dX9_sharesOf_14 : decode cX9_sharesOf 14 = .ok (.istore_n 3, 1) := by decide +kernel
theorem dX9_sharesOf_15 : decode cX9_sharesOf 15 = .ok (.iload_n 3, 1) := by decide +kernel
theorem dX9_sharesOf_16 : decode cX9_sharesOf 16 = .ok (.aload_n 0, 1) := by decide +kernel
theorem dX9_sharesOf_17 : decode cX9_sharesOf 17 = .ok (.getfield 7, 3) := by decide +kernel
theorem dX9_sharesOf_20 : decode cX9_sharesOf 20 = .ok (.bipush 8, 2) := by decide +kernel
theorem dX9_sharesOf_22 : decode cX9_sharesOf 22 = .ok (.iaload, 1) := by decide +kernel
theorem dX9_sharesOf_23 : decode cX9_sharesOf 23 = .ok (.if_icmp .ge 32, 3) := by decide +kernel
theorem dX9_sharesOf_26 : decode cX9_sharesOf 26 = .ok (.iload_n 2, 1) := by decide +kernel
theorem dX9_sharesOf_27 : decode cX9_sharesOf 27 = .ok (.aload_n 0, 1) := by decide +kernel
theorem dX9_sharesOf_28 : decode cX9_sharesOf 28 = .ok (.iload_n 3, 1) := by decide +kernel
theorem dX9_sharesOf_29 : decode cX9_sharesOf 29 = .ok (.iconst 1, 1) := by decide +kernel
theorem dX9_sharesOf_30 : decode cX9_sharesOf 30 = .ok (.invokevirtual 53, 3) := by decide +kernel
theorem dX9_sharesOf_33 : decode cX9_sharesOf 33 = .ok (.iload_n 1, 1) := by decide +kernel
theorem dX9_sharesOf_34 : decode cX9_sharesOf 34 = .ok (.if_icmp .ne 12, 3) := by decide +kernel
theorem dX9_sharesOf_37 : decode cX9_sharesOf 37 = .ok (.aload_n 0, 1) := by decide +kernel
theorem dX9_sharesOf_38 : decode cX9_sharesOf 38 = .ok (.iload_n 3, 1) := by decide +kernel
theorem dX9_sharesOf_39 : decode cX9_sharesOf 39 = .ok (.iconst 2, 1) := by decide +kernel
theorem dX9_sharesOf_40 : decode cX9_sharesOf 40 = .ok (.invokevirtual 53, 3) := by decide +kernel
theorem dX9_sharesOf_43 : decode cX9_sharesOf 43 = .ok (.goto 4, 3) := by decide +kernel
theorem dX9_sharesOf_46 : decode cX9_sharesOf 46 = .ok (.iconst 0, 1) := by decide +kernel
theorem dX9_sharesOf_47 : decode cX9_sharesOf 47 = .ok (.iadd, 1) := by decide +kernel
theorem dX9_sharesOf_48 : decode cX9_sharesOf 48 = .ok (.istore_n 2, 1) := by decide +kernel
theorem dX9_sharesOf_49 : decode cX9_sharesOf 49 = .ok (.iinc 3 1, 3) := by decide +kernel
theorem dX9_sharesOf_52 : decode cX9_sharesOf 52 = .ok (.goto (-37), 3) := by decide +kernel
theorem dX9_sharesOf_55 : decode cX9_sharesOf 55 = .ok (.iload_n 2, 1) := by decide +kernel
theorem dX9_sharesOf_56 : decode cX9_sharesOf 56 = .ok (.ireturn, 1) := by decide +kernel
theorem dX9_runs_0 : decode cX9_runs 0 = .ok (.aload_n 0, 1) := by decide +kernel
theorem dX9_runs_1 : decode cX9_runs 1 = .ok (.iload_n 1, 1) := by decide +kernel
theorem dX9_runs_2 : decode cX9_runs 2 = .ok (.bipush 9, 2) := by decide +kernel
theorem dX9_runs_4 : decode cX9_runs 4 = .ok (.invokevirtual 49, 3) := by decide +kernel
theorem dX9_runs_7 : decode cX9_runs 7 = .ok (.iconst 1, 1) := by decide +kernel
theorem dX9_runs_8 : decode cX9_runs 8 = .ok (.if_icmp .ne 7, 3) := by decide +kernel
theorem dX9_runs_11 : decode cX9_runs 11 = .ok (.iconst 1, 1) := by decide +kernel
theorem dX9_runs_12 : decode cX9_runs 12 = .ok (.goto 4, 3) := by decide +kernel
theorem dX9_runs_15 : decode cX9_runs 15 = .ok (.iconst 0, 1) := by decide +kernel
theorem dX9_runs_16 : decode cX9_runs 16 = .ok (.ireturn, 1) := by decide +kernel
theorem dX9_kindOf_0 : decode cX9_kindOf 0 = .ok (.aload_n 0, 1) := by decide +kernel
theorem dX9_kindOf_1 : decode cX9_kindOf 1 = .ok (.iload_n 1, 1) := by decide +kernel
theorem dX9_kindOf_2 : decode cX9_kindOf 2 = .ok (.bipush 18, 2) := by decide +kernel
theorem dX9_kindOf_4 : decode cX9_kindOf 4 = .ok (.aload_n 0, 1) := by decide +kernel
theorem dX9_kindOf_5 : decode cX9_kindOf 5 = .ok (.iload_n 1, 1) := by decide +kernel
theorem dX9_kindOf_6 : decode cX9_kindOf 6 = .ok (.bipush 10, 2) := by decide +kernel
theorem dX9_kindOf_8 : decode cX9_kindOf 8 = .ok (.invokevirtual 49, 3) := by decide +kernel
theorem dX9_kindOf_11 : decode cX9_kindOf 11 = .ok (.iadd, 1) := by decide +kernel
theorem dX9_kindOf_12 : decode cX9_kindOf 12 = .ok (.invokevirtual 49, 3) := by decide +kernel
theorem dX9_kindOf_15 : decode cX9_kindOf 15 = .ok (.ireturn, 1) := by decide +kernel
theorem dX9_numberOf_0 : decode cX9_numberOf 0 = .ok (.aload_n 0, 1) := by decide +kernel
theorem dX9_numberOf_1 : decode cX9_numberOf 1 = .ok (.iload_n 1, 1) := by decide +kernel
theorem dX9_numberOf_2 : decode cX9_numberOf 2 = .ok (.bipush 30, 2) := by decide +kernel
theorem dX9_numberOf_4 : decode cX9_numberOf 4 = .ok (.aload_n 0, 1) := by decide +kernel
theorem dX9_numberOf_5 : decode cX9_numberOf 5 = .ok (.iload_n 1, 1) := by decide +kernel
theorem dX9_numberOf_6 : decode cX9_numberOf 6 = .ok (.bipush 10, 2) := by decide +kernel
theorem dX9_numberOf_8 : decode cX9_numberOf 8 = .ok (.invokevirtual 49, 3) := by decide +kernel
theorem dX9_numberOf_11 : decode cX9_numberOf 11 = .ok (.iadd, 1) := by decide +kernel
theorem dX9_numberOf_12 : decode cX9_numberOf 12 = .ok (.invokevirtual 49, 3) := by decide +kernel
theorem dX9_numberOf_15 : decode cX9_numberOf 15 = .ok (.ireturn, 1) := by decide +kernel
theorem dX9_washersIn_0 : decode cX9_washersIn 0 = .ok (.iconst 0, 1) := by decide +kernel
theorem dX9_washersIn_1 : decode cX9_washersIn 1 = .ok (.istore_n 2, 1) := by decide +kernel
theorem dX9_washersIn_2 : decode cX9_washersIn 2 = .ok (.iconst 0, 1) := by decide +kernel
theorem dX9_washersIn_3 : decode cX9_washersIn 3 = .ok (.istore_n 3, 1) := by decide +kernel
theorem dX9_washersIn_4 : decode cX9_washersIn 4 = .ok (.iload_n 3, 1) := by decide +kernel
theorem dX9_washersIn_5 : decode cX9_washersIn 5 = .ok (.aload_n 0, 1) := by decide +kernel
theorem dX9_washersIn_6 : decode cX9_washersIn 6 = .ok (.getfield 7, 3) := by decide +kernel
theorem dX9_washersIn_9 : decode cX9_washersIn 9 = .ok (.iconst 2, 1) := by decide +kernel
theorem dX9_washersIn_10 : decode cX9_washersIn 10 = .ok (.iaload, 1) := by decide +kernel
theorem dX9_washersIn_11 : decode cX9_washersIn 11 = .ok (.if_icmp .ge 28, 3) := by decide +kernel
theorem dX9_washersIn_14 : decode cX9_washersIn 14 = .ok (.iload_n 2, 1) := by decide +kernel
theorem dX9_washersIn_15 : decode cX9_washersIn 15 = .ok (.aload_n 0, 1) := by decide +kernel
theorem dX9_washersIn_16 : decode cX9_washersIn 16 = .ok (.iload_n 3, 1) := by decide +kernel
theorem dX9_washersIn_17 : decode cX9_washersIn 17 = .ok (.bipush 9, 2) := by decide +kernel
theorem dX9_washersIn_19 : decode cX9_washersIn 19 = .ok (.invokevirtual 49, 3) := by decide +kernel
theorem dX9_washersIn_22 : decode cX9_washersIn 22 = .ok (.iload_n 1, 1) := by decide +kernel
theorem dX9_washersIn_23 : decode cX9_washersIn 23 = .ok (.if_icmp .ne 7, 3) := by decide +kernel
theorem dX9_washersIn_26 : decode cX9_washersIn 26 = .ok (.iconst 1, 1) := by decide +kernel
theorem dX9_washersIn_27 : decode cX9_washersIn 27 = .ok (.goto 4, 3) := by decide +kernel
theorem dX9_washersIn_30 : decode cX9_washersIn 30 = .ok (.iconst 0, 1) := by decide +kernel
theorem dX9_washersIn_31 : decode cX9_washersIn 31 = .ok (.iadd, 1) := by decide +kernel
theorem dX9_washersIn_32 : decode cX9_washersIn 32 = .ok (.istore_n 2, 1) := by decide +kernel
theorem dX9_washersIn_33 : decode cX9_washersIn 33 = .ok (.iinc 3 1, 3) := by decide +kernel
theorem dX9_washersIn_36 : decode cX9_washersIn 36 = .ok (.goto (-32), 3) := by decide +kernel
theorem dX9_washersIn_39 : decode cX9_washersIn 39 = .ok (.iload_n 2, 1) := by decide +kernel
theorem dX9_washersIn_40 : decode cX9_washersIn 40 = .ok (.ireturn, 1) := by decide +kernel
theorem dX9_addHouse_0 : decode cX9_addHouse 0 = .ok (.iload_n 1, 1) := by decide +kernel
theorem dX9_addHouse_1 : decode cX9_addHouse 1 = .ok (.iconst 1, 1) := by decide +kernel
theorem dX9_addHouse_2 : decode cX9_addHouse 2 = .ok (.bipush 20, 2) := by decide +kernel
theorem dX9_addHouse_4 : decode cX9_addHouse 4 = .ok (.invokestatic 45, 3) := by decide +kernel
theorem dX9_addHouse_7 : decode cX9_addHouse 7 = .ok (.ifCond .eq 24, 3) := by decide +kernel
theorem dX9_addHouse_10 : decode cX9_addHouse 10 = .ok (.iload_n 2, 1) := by decide +kernel
theorem dX9_addHouse_11 : decode cX9_addHouse 11 = .ok (.iconst 1, 1) := by decide +kernel
theorem dX9_addHouse_12 : decode cX9_addHouse 12 = .ok (.bipush 50, 2) := by decide +kernel
theorem dX9_addHouse_14 : decode cX9_addHouse 14 = .ok (.invokestatic 45, 3) := by decide +kernel
theorem dX9_addHouse_17 : decode cX9_addHouse 17 = .ok (.ifCond .eq 14, 3) := by decide +kernel
theorem dX9_addHouse_20 : decode cX9_addHouse 20 = .ok (.iload_n 3, 1) := by decide +kernel
theorem dX9_addHouse_21 : decode cX9_addHouse 21 = .ok (.iconst 0, 1) := by decide +kernel
theorem dX9_addHouse_22 : decode cX9_addHouse 22 = .ok (.sipush 9999, 3) := by decide +kernel
theorem dX9_addHouse_25 : decode cX9_addHouse 25 = .ok (.invokestatic 45, 3) := by decide +kernel
theorem dX9_addHouse_28 : decode cX9_addHouse 28 = .ok (.ifCond .ne 6, 3) := by decide +kernel
theorem dX9_addHouse_31 : decode cX9_addHouse 31 = .ok (.bipush (-2), 2) := by decide +kernel
theorem dX9_addHouse_33 : decode cX9_addHouse 33 = .ok (.ireturn, 1) := by decide +kernel
theorem dX9_addHouse_34 : decode cX9_addHouse 34 = .ok (.aload_n 0, 1) := by decide +kernel
theorem dX9_addHouse_35 : decode cX9_addHouse 35 = .ok (.getfield 7, 3) := by decide +kernel
theorem dX9_addHouse_38 : decode cX9_addHouse 38 = .ok (.iconst 2, 1) := by decide +kernel
theorem dX9_addHouse_39 : decode cX9_addHouse 39 = .ok (.iaload, 1) := by decide +kernel
theorem dX9_addHouse_40 : decode cX9_addHouse 40 = .ok (.bipush 8, 2) := by decide +kernel
theorem dX9_addHouse_42 : decode cX9_addHouse 42 = .ok (.if_icmp .ne 6, 3) := by decide +kernel
theorem dX9_addHouse_45 : decode cX9_addHouse 45 = .ok (.bipush (-3), 2) := by decide +kernel
theorem dX9_addHouse_47 : decode cX9_addHouse 47 = .ok (.ireturn, 1) := by decide +kernel
theorem dX9_addHouse_48 : decode cX9_addHouse 48 = .ok (.aload_n 0, 1) := by decide +kernel
theorem dX9_addHouse_49 : decode cX9_addHouse 49 = .ok (.invokevirtual 60, 3) := by decide +kernel
theorem dX9_addHouse_52 : decode cX9_addHouse 52 = .ok (.aload_n 0, 1) := by decide +kernel
theorem dX9_addHouse_53 : decode cX9_addHouse 53 = .ok (.getfield 7, 3) := by decide +kernel
theorem dX9_addHouse_56 : decode cX9_addHouse 56 = .ok (.iconst 2, 1) := by decide +kernel
theorem dX9_addHouse_57 : decode cX9_addHouse 57 = .ok (.iaload, 1) := by decide +kernel
theorem dX9_addHouse_58 : decode cX9_addHouse 58 = .ok (.istore 4, 2) := by decide +kernel
theorem dX9_addHouse_60 : decode cX9_addHouse 60 = .ok (.iconst 0, 1) := by decide +kernel
theorem dX9_addHouse_61 : decode cX9_addHouse 61 = .ok (.istore 5, 2) := by decide +kernel
theorem dX9_addHouse_63 : decode cX9_addHouse 63 = .ok (.iload 5, 2) := by decide +kernel
theorem dX9_addHouse_65 : decode cX9_addHouse 65 = .ok (.bipush 42, 2) := by decide +kernel
theorem dX9_addHouse_67 : decode cX9_addHouse 67 = .ok (.if_icmp .ge 18, 3) := by decide +kernel
theorem dX9_addHouse_70 : decode cX9_addHouse 70 = .ok (.aload_n 0, 1) := by decide +kernel
theorem dX9_addHouse_71 : decode cX9_addHouse 71 = .ok (.iload 4, 2) := by decide +kernel
theorem dX9_addHouse_73 : decode cX9_addHouse 73 = .ok (.iload 5, 2) := by decide +kernel
theorem dX9_addHouse_75 : decode cX9_addHouse 75 = .ok (.iconst 0, 1) := by decide +kernel
theorem dX9_addHouse_76 : decode cX9_addHouse 76 = .ok (.invokevirtual 63, 3) := by decide +kernel
theorem dX9_addHouse_79 : decode cX9_addHouse 79 = .ok (.iinc 5 1, 3) := by decide +kernel
theorem dX9_addHouse_82 : decode cX9_addHouse 82 = .ok (.goto (-19), 3) := by decide +kernel
theorem dX9_addHouse_85 : decode cX9_addHouse 85 = .ok (.aload_n 0, 1) := by decide +kernel
theorem dX9_addHouse_86 : decode cX9_addHouse 86 = .ok (.iload 4, 2) := by decide +kernel
theorem dX9_addHouse_88 : decode cX9_addHouse 88 = .ok (.iconst 0, 1) := by decide +kernel
theorem dX9_addHouse_89 : decode cX9_addHouse 89 = .ok (.iload_n 1, 1) := by decide +kernel
theorem dX9_addHouse_90 : decode cX9_addHouse 90 = .ok (.invokevirtual 63, 3) := by decide +kernel
theorem dX9_addHouse_93 : decode cX9_addHouse 93 = .ok (.aload_n 0, 1) := by decide +kernel
theorem dX9_addHouse_94 : decode cX9_addHouse 94 = .ok (.iload 4, 2) := by decide +kernel
theorem dX9_addHouse_96 : decode cX9_addHouse 96 = .ok (.iconst 1, 1) := by decide +kernel
theorem dX9_addHouse_97 : decode cX9_addHouse 97 = .ok (.iload_n 2, 1) := by decide +kernel
theorem dX9_addHouse_98 : decode cX9_addHouse 98 = .ok (.invokevirtual 63, 3) := by decide +kernel
theorem dX9_addHouse_101 : decode cX9_addHouse 101 = .ok (.aload_n 0, 1) := by decide +kernel
theorem dX9_addHouse_102 : decode cX9_addHouse 102 = .ok (.iload 4, 2) := by decide +kernel
theorem dX9_addHouse_104 : decode cX9_addHouse 104 = .ok (.iconst 2, 1) := by decide +kernel
theorem dX9_addHouse_105 : decode cX9_addHouse 105 = .ok (.iload_n 3, 1) := by decide +kernel
theorem dX9_addHouse_106 : decode cX9_addHouse 106 = .ok (.invokevirtual 63, 3) := by decide +kernel
theorem dX9_addHouse_109 : decode cX9_addHouse 109 = .ok (.aload_n 0, 1) := by decide +kernel
theorem dX9_addHouse_110 : decode cX9_addHouse 110 = .ok (.iload 4, 2) := by decide +kernel
theorem dX9_addHouse_112 : decode cX9_addHouse 112 = .ok (.bipush 13, 2) := by decide +kernel
theorem dX9_addHouse_114 : decode cX9_addHouse 114 = .ok (.iconst 1, 1) := by decide +kernel
theorem dX9_addHouse_115 : decode cX9_addHouse 115 = .ok (.invokevirtual 63, 3) := by decide +kernel
theorem dX9_addHouse_118 : decode cX9_addHouse 118 = .ok (.aload_n 0, 1) := by decide +kernel
theorem dX9_addHouse_119 : decode cX9_addHouse 119 = .ok (.getfield 7, 3) := by decide +kernel
theorem dX9_addHouse_122 : decode cX9_addHouse 122 = .ok (.iconst 2, 1) := by decide +kernel
theorem dX9_addHouse_123 : decode cX9_addHouse 123 = .ok (.dup2, 1) := by decide +kernel
theorem dX9_addHouse_124 : decode cX9_addHouse 124 = .ok (.iaload, 1) := by decide +kernel
theorem dX9_addHouse_125 : decode cX9_addHouse 125 = .ok (.iconst 1, 1) := by decide +kernel
theorem dX9_addHouse_126 : decode cX9_addHouse 126 = .ok (.iadd, 1) := by decide +kernel
theorem dX9_addHouse_127 : decode cX9_addHouse 127 = .ok (.iastore, 1) := by decide +kernel
theorem dX9_addHouse_128 : decode cX9_addHouse 128 = .ok (.iload 4, 2) := by decide +kernel
theorem dX9_addHouse_130 : decode cX9_addHouse 130 = .ok (.ireturn, 1) := by decide +kernel
theorem dX9_isSetting_0 : decode cX9_isSetting 0 = .ok (.iload_n 0, 1) := by decide +kernel
theorem dX9_isSetting_1 : decode cX9_isSetting 1 = .ok (.tableswitch 69 0 3 #[31, 41, 50, 60], 31) := by decide +kernel
theorem dX9_isSetting_32 : decode cX9_isSetting 32 = .ok (.iload_n 1, 1) := by decide +kernel
theorem dX9_isSetting_33 : decode cX9_isSetting 33 = .ok (.sipush 1000, 3) := by decide +kernel
theorem dX9_isSetting_36 : decode cX9_isSetting 36 = .ok (.ldc 67, 2) := by decide +kernel
theorem dX9_isSetting_38 : decode cX9_isSetting 38 = .ok (.invokestatic 45, 3) := by decide +kernel
theorem dX9_isSetting_41 : decode cX9_isSetting 41 = .ok (.ireturn, 1) := by decide +kernel
theorem dX9_isSetting_42 : decode cX9_isSetting 42 = .ok (.iload_n 1, 1) := by decide +kernel
theorem dX9_isSetting_43 : decode cX9_isSetting 43 = .ok (.iconst 0, 1) := by decide +kernel
theorem dX9_isSetting_44 : decode cX9_isSetting 44 = .ok (.sipush 900, 3) := by decide +kernel
theorem dX9_isSetting_47 : decode cX9_isSetting 47 = .ok (.invokestatic 45, 3) := by decide +kernel
theorem dX9_isSetting_50 : decode cX9_isSetting 50 = .ok (.ireturn, 1) := by decide +kernel
theorem dX9_isSetting_51 : decode cX9_isSetting 51 = .ok (.iload_n 1, 1) := by decide +kernel
theorem dX9_isSetting_52 : decode cX9_isSetting 52 = .ok (.bipush 10, 2) := by decide +kernel
theorem dX9_isSetting_54 : decode cX9_isSetting 54 = .ok (.sipush 2000, 3) := by decide +kernel
theorem dX9_isSetting_57 : decode cX9_isSetting 57 = .ok (.invokestatic 45, 3) := by decide +kernel
theorem dX9_isSetting_60 : decode cX9_isSetting 60 = .ok (.ireturn, 1) := by decide +kernel
theorem dX9_isSetting_61 : decode cX9_isSetting 61 = .ok (.iload_n 1, 1) := by decide +kernel
theorem dX9_isSetting_62 : decode cX9_isSetting 62 = .ok (.bipush 20, 2) := by decide +kernel
theorem dX9_isSetting_64 : decode cX9_isSetting 64 = .ok (.bipush 60, 2) := by decide +kernel
theorem dX9_isSetting_66 : decode cX9_isSetting 66 = .ok (.invokestatic 45, 3) := by decide +kernel
theorem dX9_isSetting_69 : decode cX9_isSetting 69 = .ok (.ireturn, 1) := by decide +kernel
theorem dX9_isSetting_70 : decode cX9_isSetting 70 = .ok (.iconst 0, 1) := by decide +kernel
theorem dX9_isSetting_71 : decode cX9_isSetting 71 = .ok (.ireturn, 1) := by decide +kernel
theorem dX9_isTooHot_0 : decode cX9_isTooHot 0 = .ok (.iconst 0, 1) := by decide +kernel
theorem dX9_isTooHot_1 : decode cX9_isTooHot 1 = .ok (.istore_n 2, 1) := by decide +kernel
theorem dX9_isTooHot_2 : decode cX9_isTooHot 2 = .ok (.iconst 0, 1) := by decide +kernel
theorem dX9_isTooHot_3 : decode cX9_isTooHot 3 = .ok (.istore_n 3, 1) := by decide +kernel
theorem dX9_isTooHot_4 : decode cX9_isTooHot 4 = .ok (.iload_n 3, 1) := by decide +kernel
theorem dX9_isTooHot_5 : decode cX9_isTooHot 5 = .ok (.aload_n 0, 1) := by decide +kernel
theorem dX9_isTooHot_6 : decode cX9_isTooHot 6 = .ok (.getfield 7, 3) := by decide +kernel
theorem dX9_isTooHot_9 : decode cX9_isTooHot 9 = .ok (.iconst 2, 1) := by decide +kernel
theorem dX9_isTooHot_10 : decode cX9_isTooHot 10 = .ok (.iaload, 1) := by decide +kernel
theorem dX9_isTooHot_11 : decode cX9_isTooHot 11 = .ok (.if_icmp .ge 39, 3) := by decide +kernel
theorem dX9_isTooHot_14 : decode cX9_isTooHot 14 = .ok (.iload_n 2, 1) := by decide +kernel
theorem dX9_isTooHot_15 : decode cX9_isTooHot 15 = .ok (.ifCond .ne 23, 3) := by decide +kernel
theorem dX9_isTooHot_18 : decode cX9_isTooHot 18 = .ok (.aload_n 0, 1) := by decide +kernel
theorem dX9_isTooHot_19 : decode cX9_isTooHot 19 = .ok (.iload_n 3, 1) := by decide +kernel
theorem dX9_isTooHot_20 : decode cX9_isTooHot 20 = .ok (.bipush 13, 2) := by decide +kernel
theorem dX9_isTooHot_22 : decode cX9_isTooHot 22 = .ok (.invokevirtual 49, 3) := by decide +kernel
theorem dX9_isTooHot_25 : decode cX9_isTooHot 25 = .ok (.iconst 2, 1) := by decide +kernel
theorem dX9_isTooHot_26 : decode cX9_isTooHot 26 = .ok (.if_icmp .eq 16, 3) := by decide +kernel
theorem dX9_isTooHot_29 : decode cX9_isTooHot 29 = .ok (.aload_n 0, 1) := by decide +kernel
theorem dX9_isTooHot_30 : decode cX9_isTooHot 30 = .ok (.iload_n 3, 1) := by decide +kernel
theorem dX9_isTooHot_31 : decode cX9_isTooHot 31 = .ok (.invokevirtual 68, 3) := by decide +kernel
theorem dX9_isTooHot_34 : decode cX9_isTooHot 34 = .ok (.iload_n 1, 1) := by decide +kernel
theorem dX9_isTooHot_35 : decode cX9_isTooHot 35 = .ok (.if_icmp .le 7, 3) := by decide +kernel
theorem dX9_isTooHot_38 : decode cX9_isTooHot 38 = .ok (.iconst 1, 1) := by decide +kernel
theorem dX9_isTooHot_39 : decode cX9_isTooHot 39 = .ok (.goto 4, 3) := by decide +kernel
theorem dX9_isTooHot_42 : decode cX9_isTooHot 42 = .ok (.iconst 0, 1) := by decide +kernel
theorem dX9_isTooHot_43 : decode cX9_isTooHot 43 = .ok (.istore_n 2, 1) := by decide +kernel
theorem dX9_isTooHot_44 : decode cX9_isTooHot 44 = .ok (.iinc 3 1, 3) := by decide +kernel
theorem dX9_isTooHot_47 : decode cX9_isTooHot 47 = .ok (.goto (-43), 3) := by decide +kernel
theorem dX9_isTooHot_50 : decode cX9_isTooHot 50 = .ok (.iload_n 2, 1) := by decide +kernel
theorem dX9_isTooHot_51 : decode cX9_isTooHot 51 = .ok (.ireturn, 1) := by decide +kernel
theorem dX9_set_0 : decode cX9_set 0 = .ok (.iload_n 1, 1) := by decide +kernel
theorem dX9_set_1 : decode cX9_set 1 = .ok (.iload_n 2, 1) := by decide +kernel
theorem dX9_set_2 : decode cX9_set 2 = .ok (.invokestatic 71, 3) := by decide +kernel
theorem dX9_set_5 : decode cX9_set 5 = .ok (.ifCond .ne 6, 3) := by decide +kernel
theorem dX9_set_8 : decode cX9_set 8 = .ok (.bipush (-2), 2) := by decide +kernel
theorem dX9_set_10 : decode cX9_set 10 = .ok (.ireturn, 1) := by decide +kernel
theorem dX9_set_11 : decode cX9_set 11 = .ok (.iload_n 1, 1) := by decide +kernel
theorem dX9_set_12 : decode cX9_set 12 = .ok (.ifCond .ne 14, 3) := by decide +kernel
theorem dX9_set_15 : decode cX9_set 15 = .ok (.aload_n 0, 1) := by decide +kernel
theorem dX9_set_16 : decode cX9_set 16 = .ok (.getfield 7, 3) := by decide +kernel
theorem dX9_set_19 : decode cX9_set 19 = .ok (.bipush 7, 2) := by decide +kernel
theorem dX9_set_21 : decode cX9_set 21 = .ok (.iaload, 1) := by decide +kernel
theorem dX9_set_22 : decode cX9_set 22 = .ok (.iload_n 2, 1) := by decide +kernel
theorem dX9_set_23 : decode cX9_set 23 = .ok (.if_icmp .gt 16, 3) := by decide +kernel
theorem dX9_set_26 : decode cX9_set 26 = .ok (.iload_n 1, 1) := by decide +kernel
theorem dX9_set_27 : decode cX9_set 27 = .ok (.iconst 3, 1) := by decide +kernel
theorem dX9_set_28 : decode cX9_set 28 = .ok (.if_icmp .ne 14, 3) := by decide +kernel
theorem dX9_set_31 : decode cX9_set 31 = .ok (.aload_n 0, 1) := by decide +kernel
theorem dX9_set_32 : decode cX9_set 32 = .ok (.iload_n 2, 1) := by decide +kernel
theorem dX9_set_33 : decode cX9_set 33 = .ok (.invokevirtual 75, 3) := by decide +kernel
theorem dX9_set_36 : decode cX9_set 36 = .ok (.ifCond .eq 6, 3) := by decide +kernel
theorem dX9_set_39 : decode cX9_set 39 = .ok (.bipush (-4), 2) := by decide +kernel
theorem dX9_set_41 : decode cX9_set 41 = .ok (.ireturn, 1) := by decide +kernel
theorem dX9_set_42 : decode cX9_set 42 = .ok (.aload_n 0, 1) := by decide +kernel
theorem dX9_set_43 : decode cX9_set 43 = .ok (.getfield 7, 3) := by decide +kernel
theorem dX9_set_46 : decode cX9_set 46 = .ok (.iconst 3, 1) := by decide +kernel
theorem dX9_set_47 : decode cX9_set 47 = .ok (.iload_n 1, 1) := by decide +kernel
theorem dX9_set_48 : decode cX9_set 48 = .ok (.iadd, 1) := by decide +kernel
theorem dX9_set_49 : decode cX9_set 49 = .ok (.iaload, 1) := by decide +kernel
theorem dX9_set_50 : decode cX9_set 50 = .ok (.istore_n 3, 1) := by decide +kernel
theorem dX9_set_51 : decode cX9_set 51 = .ok (.iload_n 3, 1) := by decide +kernel
theorem dX9_set_52 : decode cX9_set 52 = .ok (.iload_n 2, 1) := by decide +kernel
theorem dX9_set_53 : decode cX9_set 53 = .ok (.if_icmp .ne 6, 3) := by decide +kernel
theorem dX9_set_56 : decode cX9_set 56 = .ok (.bipush (-5), 2) := by decide +kernel
theorem dX9_set_58 : decode cX9_set 58 = .ok (.ireturn, 1) := by decide +kernel
theorem dX9_set_59 : decode cX9_set 59 = .ok (.aload_n 0, 1) := by decide +kernel
theorem dX9_set_60 : decode cX9_set 60 = .ok (.invokevirtual 60, 3) := by decide +kernel
theorem dX9_set_63 : decode cX9_set 63 = .ok (.aload_n 0, 1) := by decide +kernel
theorem dX9_set_64 : decode cX9_set 64 = .ok (.getfield 7, 3) := by decide +kernel
theorem dX9_set_67 : decode cX9_set 67 = .ok (.iconst 3, 1) := by decide +kernel
theorem dX9_set_68 : decode cX9_set 68 = .ok (.iload_n 1, 1) := by decide +kernel
theorem dX9_set_69 : decode cX9_set 69 = .ok (.iadd, 1) := by decide +kernel
theorem dX9_set_70 : decode cX9_set 70 = .ok (.iload_n 2, 1) := by decide +kernel
theorem dX9_set_71 : decode cX9_set 71 = .ok (.iastore, 1) := by decide +kernel
theorem dX9_set_72 : decode cX9_set 72 = .ok (.iload_n 3, 1) := by decide +kernel
theorem dX9_set_73 : decode cX9_set 73 = .ok (.ireturn, 1) := by decide +kernel
theorem dX9_power_0 : decode cX9_power 0 = .ok (.iload_n 1, 1) := by decide +kernel
theorem dX9_power_1 : decode cX9_power 1 = .ok (.ifCond .eq 7, 3) := by decide +kernel
theorem dX9_power_4 : decode cX9_power 4 = .ok (.iconst 1, 1) := by decide +kernel
theorem dX9_power_5 : decode cX9_power 5 = .ok (.goto 4, 3) := by decide +kernel
theorem dX9_power_8 : decode cX9_power 8 = .ok (.iconst 0, 1) := by decide +kernel
theorem dX9_power_9 : decode cX9_power 9 = .ok (.istore_n 2, 1) := by decide +kernel
theorem dX9_power_10 : decode cX9_power 10 = .ok (.aload_n 0, 1) := by decide +kernel
theorem dX9_power_11 : decode cX9_power 11 = .ok (.getfield 7, 3) := by decide +kernel
theorem dX9_power_14 : decode cX9_power 14 = .ok (.iconst 1, 1) := by decide +kernel
theorem dX9_power_15 : decode cX9_power 15 = .ok (.iaload, 1) := by decide +kernel
theorem dX9_power_16 : decode cX9_power 16 = .ok (.iload_n 2, 1) := by decide +kernel
theorem dX9_power_17 : decode cX9_power 17 = .ok (.if_icmp .ne 6, 3) := by decide +kernel
theorem dX9_power_20 : decode cX9_power 20 = .ok (.bipush (-5), 2) := by decide +kernel
theorem dX9_power_22 : decode cX9_power 22 = .ok (.ireturn, 1) := by decide +kernel
theorem dX9_power_23 : decode cX9_power 23 = .ok (.aload_n 0, 1) := by decide +kernel
theorem dX9_power_24 : decode cX9_power 24 = .ok (.invokevirtual 60, 3) := by decide +kernel
theorem dX9_power_27 : decode cX9_power 27 = .ok (.aload_n 0, 1) := by decide +kernel
theorem dX9_power_28 : decode cX9_power 28 = .ok (.getfield 7, 3) := by decide +kernel
theorem dX9_power_31 : decode cX9_power 31 = .ok (.iconst 1, 1) := by decide +kernel
theorem dX9_power_32 : decode cX9_power 32 = .ok (.iload_n 2, 1) := by decide +kernel
theorem dX9_power_33 : decode cX9_power 33 = .ok (.iastore, 1) := by decide +kernel
theorem dX9_power_34 : decode cX9_power 34 = .ok (.iconst 0, 1) := by decide +kernel
theorem dX9_power_35 : decode cX9_power 35 = .ok (.istore_n 3, 1) := by decide +kernel
theorem dX9_power_36 : decode cX9_power 36 = .ok (.iload_n 3, 1) := by decide +kernel
theorem dX9_power_37 : decode cX9_power 37 = .ok (.aload_n 0, 1) := by decide +kernel
theorem dX9_power_38 : decode cX9_power 38 = .ok (.getfield 7, 3) := by decide +kernel
theorem dX9_power_41 : decode cX9_power 41 = .ok (.iconst 2, 1) := by decide +kernel
theorem dX9_power_42 : decode cX9_power 42 = .ok (.iaload, 1) := by decide +kernel
theorem dX9_power_43 : decode cX9_power 43 = .ok (.if_icmp .ge 39, 3) := by decide +kernel
theorem dX9_power_46 : decode cX9_power 46 = .ok (.iload_n 1, 1) := by decide +kernel
theorem dX9_power_47 : decode cX9_power 47 = .ok (.ifCond .eq 35, 3) := by decide +kernel
theorem dX9_power_50 : decode cX9_power 50 = .ok (.aload_n 0, 1) := by decide +kernel
theorem dX9_power_51 : decode cX9_power 51 = .ok (.iload_n 3, 1) := by decide +kernel
theorem dX9_power_52 : decode cX9_power 52 = .ok (.invokevirtual 79, 3) := by decide +kernel
theorem dX9_power_55 : decode cX9_power 55 = .ok (.ifCond .eq 21, 3) := by decide +kernel
theorem dX9_power_58 : decode cX9_power 58 = .ok (.aload_n 0, 1) := by decide +kernel
theorem dX9_power_59 : decode cX9_power 59 = .ok (.iload_n 3, 1) := by decide +kernel
theorem dX9_power_60 : decode cX9_power 60 = .ok (.invokevirtual 82, 3) := by decide +kernel
theorem dX9_power_63 : decode cX9_power 63 = .ok (.bipush 115, 2) := by decide +kernel
theorem dX9_power_65 : decode cX9_power 65 = .ok (.if_icmp .ne 11, 3) := by decide +kernel
theorem dX9_power_68 : decode cX9_power 68 = .ok (.aload_n 0, 1) := by decide +kernel
theorem dX9_power_69 : decode cX9_power 69 = .ok (.iload_n 3, 1) := by decide +kernel
theorem dX9_power_70 : decode cX9_power 70 = .ok (.bipush 14, 2) := by decide +kernel
theorem dX9_power_72 : decode cX9_power 72 = .ok (.iconst 0, 1) := by decide +kernel
theorem dX9_power_73 : decode cX9_power 73 = .ok (.invokevirtual 63, 3) := by decide +kernel
theorem dX9_power_76 : decode cX9_power 76 = .ok (.iinc 3 1, 3) := by decide +kernel
theorem dX9_power_79 : decode cX9_power 79 = .ok (.goto (-43), 3) := by decide +kernel
theorem dX9_power_82 : decode cX9_power 82 = .ok (.aload_n 0, 1) := by decide +kernel
theorem dX9_power_83 : decode cX9_power 83 = .ok (.iconst 1, 1) := by decide +kernel
theorem dX9_power_84 : decode cX9_power 84 = .ok (.invokevirtual 85, 3) := by decide +kernel
theorem dX9_power_87 : decode cX9_power 87 = .ok (.ireturn, 1) := by decide +kernel
theorem dX9_wantOf_0 : decode cX9_wantOf 0 = .ok (.aload_n 0, 1) := by decide +kernel
theorem dX9_wantOf_1 : decode cX9_wantOf 1 = .ok (.iload_n 1, 1) := by decide +kernel
theorem dX9_wantOf_2 : decode cX9_wantOf 2 = .ok (.invokevirtual 79, 3) := by decide +kernel
theorem dX9_wantOf_5 : decode cX9_wantOf 5 = .ok (.ifCond .eq 23, 3) := by decide +kernel
theorem dX9_wantOf_8 : decode cX9_wantOf 8 = .ok (.aload_n 0, 1) := by decide +kernel
theorem dX9_wantOf_9 : decode cX9_wantOf 9 = .ok (.iload_n 1, 1) := by decide +kernel
theorem dX9_wantOf_10 : decode cX9_wantOf 10 = .ok (.invokevirtual 82, 3) := by decide +kernel
theorem dX9_wantOf_13 : decode cX9_wantOf 13 = .ok (.bipush 104, 2) := by decide +kernel
theorem dX9_wantOf_15 : decode cX9_wantOf 15 = .ok (.if_icmp .ne 13, 3) := by decide +kernel
theorem dX9_wantOf_18 : decode cX9_wantOf 18 = .ok (.aload_n 0, 1) := by decide +kernel
theorem dX9_wantOf_19 : decode cX9_wantOf 19 = .ok (.iload_n 1, 1) := by decide +kernel
theorem dX9_wantOf_20 : decode cX9_wantOf 20 = .ok (.bipush 11, 2) := by decide +kernel
theorem dX9_wantOf_22 : decode cX9_wantOf 22 = .ok (.invokevirtual 49, 3) := by decide +kernel
theorem dX9_wantOf_25 : decode cX9_wantOf 25 = .ok (.ifCond .ne 5, 3) := by decide +kernel
theorem dX9_wantOf_28 : decode cX9_wantOf 28 = .ok (.iconst 0, 1) := by decide +kernel
theorem dX9_wantOf_29 : decode cX9_wantOf 29 = .ok (.ireturn, 1) := by decide +kernel
theorem dX9_wantOf_30 : decode cX9_wantOf 30 = .ok (.iconst 4, 1) := by decide +kernel
theorem dX9_wantOf_31 : decode cX9_wantOf 31 = .ok (.aload_n 0, 1) := by decide +kernel
theorem dX9_wantOf_32 : decode cX9_wantOf 32 = .ok (.iload_n 1, 1) := by decide +kernel
theorem dX9_wantOf_33 : decode cX9_wantOf 33 = .ok (.bipush 11, 2) := by decide +kernel
theorem dX9_wantOf_35 : decode cX9_wantOf 35 = .ok (.invokevirtual 49, 3) := by decide +kernel
theorem dX9_wantOf_38 : decode cX9_wantOf 38 = .ok (.imul, 1) := by decide +kernel
theorem dX9_wantOf_39 : decode cX9_wantOf 39 = .ok (.aload_n 0, 1) := by decide +kernel
theorem dX9_wantOf_40 : decode cX9_wantOf 40 = .ok (.iload_n 1, 1) := by decide +kernel
theorem dX9_wantOf_41 : decode cX9_wantOf 41 = .ok (.invokevirtual 88, 3) := by decide +kernel
theorem dX9_wantOf_44 : decode cX9_wantOf 44 = .ok (.imul, 1) := by decide +kernel
theorem dX9_wantOf_45 : decode cX9_wantOf 45 = .ok (.aload_n 0, 1) := by decide +kernel
theorem dX9_wantOf_46 : decode cX9_wantOf 46 = .ok (.iload_n 1, 1) := by decide +kernel
theorem dX9_wantOf_47 : decode cX9_wantOf 47 = .ok (.bipush 12, 2) := by decide +kernel
theorem dX9_wantOf_49 : decode cX9_wantOf 49 = .ok (.invokevirtual 49, 3) := by decide +kernel
theorem dX9_wantOf_52 : decode cX9_wantOf 52 = .ok (.isub, 1) := by decide +kernel
theorem dX9_wantOf_53 : decode cX9_wantOf 53 = .ok (.istore_n 2, 1) := by decide +kernel
theorem dX9_wantOf_54 : decode cX9_wantOf 54 = .ok (.iload_n 2, 1) := by decide +kernel
theorem dX9_wantOf_55 : decode cX9_wantOf 55 = .ok (.ifCond .ge 7, 3) := by decide +kernel
theorem dX9_wantOf_58 : decode cX9_wantOf 58 = .ok (.iconst 0, 1) := by decide +kernel
theorem dX9_wantOf_59 : decode cX9_wantOf 59 = .ok (.goto 17, 3) := by decide +kernel
theorem dX9_wantOf_62 : decode cX9_wantOf 62 = .ok (.iload_n 2, 1) := by decide +kernel
theorem dX9_wantOf_63 : decode cX9_wantOf 63 = .ok (.sipush 250, 3) := by decide +kernel
theorem dX9_wantOf_66 : decode cX9_wantOf 66 = .ok (.if_icmp .le 9, 3) := by decide +kernel
theorem dX9_wantOf_69 : decode cX9_wantOf 69 = .ok (.sipush 250, 3) := by decide +kernel
theorem dX9_wantOf_72 : decode cX9_wantOf 72 = .ok (.goto 4, 3) := by decide +kernel
theorem dX9_wantOf_75 : decode cX9_wantOf 75 = .ok (.iload_n 2, 1) := by decide +kernel
theorem dX9_wantOf_76 : decode cX9_wantOf 76 = .ok (.ireturn, 1) := by decide +kernel
theorem dX9_wantingShares_0 : decode cX9_wantingShares 0 = .ok (.iconst 0, 1) := by decide +kernel
theorem dX9_wantingShares_1 : decode cX9_wantingShares 1 = .ok (.istore_n 1, 1) := by decide +kernel
theorem dX9_wantingShares_2 : decode cX9_wantingShares 2 = .ok (.iconst 0, 1) := by decide +kernel
theorem dX9_wantingShares_3 : decode cX9_wantingShares 3 = .ok (.istore_n 2, 1) := by decide +kernel
theorem dX9_wantingShares_4 : decode cX9_wantingShares 4 = .ok (.iload_n 2, 1) := by decide +kernel
theorem dX9_wantingShares_5 : decode cX9_wantingShares 5 = .ok (.aload_n 0, 1) := by decide +kernel
theorem dX9_wantingShares_6 : decode cX9_wantingShares 6 = .ok (.getfield 7, 3) := by decide +kernel
theorem dX9_wantingShares_9 : decode cX9_wantingShares 9 = .ok (.iconst 2, 1) := by decide +kernel
theorem dX9_wantingShares_10 : decode cX9_wantingShares 10 = .ok (.iaload, 1) := by decide +kernel
theorem dX9_wantingShares_11 : decode cX9_wantingShares 11 = .ok (.if_icmp .ge 36, 3) := by decide +kernel
theorem dX9_wantingShares_14 : decode cX9_wantingShares 14 = .ok (.iload_n 1, 1) := by decide +kernel
theorem dX9_wantingShares_15 : decode cX9_wantingShares 15 = .ok (.aload_n 0, 1) := by decide +kernel
theorem dX9_wantingShares_16 : decode cX9_wantingShares 16 = .ok (.getfield 28, 3) := by decide +kernel
theorem dX9_wantingShares_19 : decode cX9_wantingShares 19 = .ok (.iload_n 2, 1) := by decide +kernel
theorem dX9_wantingShares_20 : decode cX9_wantingShares 20 = .ok (.iaload, 1) := by decide +kernel
theorem dX9_wantingShares_21 : decode cX9_wantingShares 21 = .ok (.aload_n 0, 1) := by decide +kernel
theorem dX9_wantingShares_22 : decode cX9_wantingShares 22 = .ok (.getfield 25, 3) := by decide +kernel
theorem dX9_wantingShares_25 : decode cX9_wantingShares 25 = .ok (.iload_n 2, 1) := by decide +kernel
theorem dX9_wantingShares_26 : decode cX9_wantingShares 26 = .ok (.iaload, 1) := by decide +kernel
theorem dX9_wantingShares_27 : decode cX9_wantingShares 27 = .ok (.if_icmp .ge 11, 3) := by decide +kernel
theorem dX9_wantingShares_30 : decode cX9_wantingShares 30 = .ok (.aload_n 0, 1) := by decide +kernel
theorem dX9_wantingShares_31 : decode cX9_wantingShares 31 = .ok (.iload_n 2, 1) := by decide +kernel
theorem dX9_wantingShares_32 : decode cX9_wantingShares 32 = .ok (.invokevirtual 91, 3) := by decide +kernel
theorem dX9_wantingShares_35 : decode cX9_wantingShares 35 = .ok (.goto 4, 3) := by decide +kernel
theorem dX9_wantingShares_38 : decode cX9_wantingShares 38 = .ok (.iconst 0, 1) := by decide +kernel
theorem dX9_wantingShares_39 : decode cX9_wantingShares 39 = .ok (.iadd, 1) := by decide +kernel
theorem dX9_wantingShares_40 : decode cX9_wantingShares 40 = .ok (.istore_n 1, 1) := by decide +kernel
theorem dX9_wantingShares_41 : decode cX9_wantingShares 41 = .ok (.iinc 2 1, 3) := by decide +kernel
theorem dX9_wantingShares_44 : decode cX9_wantingShares 44 = .ok (.goto (-40), 3) := by decide +kernel
theorem dX9_wantingShares_47 : decode cX9_wantingShares 47 = .ok (.iload_n 1, 1) := by decide +kernel
theorem dX9_wantingShares_48 : decode cX9_wantingShares 48 = .ok (.ireturn, 1) := by decide +kernel
theorem dX9_split_0 : decode cX9_split 0 = .ok (.iconst 0, 1) := by decide +kernel
theorem dX9_split_1 : decode cX9_split 1 = .ok (.istore_n 2, 1) := by decide +kernel
theorem dX9_split_2 : decode cX9_split 2 = .ok (.iload_n 2, 1) := by decide +kernel
theorem dX9_split_3 : decode cX9_split 3 = .ok (.bipush 8, 2) := by decide +kernel
theorem dX9_split_5 : decode cX9_split 5 = .ok (.if_icmp .ge 41, 3) := by decide +kernel
theorem dX9_split_8 : decode cX9_split 8 = .ok (.aload_n 0, 1) := by decide +kernel
theorem dX9_split_9 : decode cX9_split 9 = .ok (.getfield 25, 3) := by decide +kernel
theorem dX9_split_12 : decode cX9_split 12 = .ok (.iload_n 2, 1) := by decide +kernel
theorem dX9_split_13 : decode cX9_split 13 = .ok (.iload_n 2, 1) := by decide +kernel
theorem dX9_split_14 : decode cX9_split 14 = .ok (.aload_n 0, 1) := by decide +kernel
theorem dX9_split_15 : decode cX9_split 15 = .ok (.getfield 7, 3) := by decide +kernel
theorem dX9_split_18 : decode cX9_split 18 = .ok (.iconst 2, 1) := by decide +kernel
theorem dX9_split_19 : decode cX9_split 19 = .ok (.iaload, 1) := by decide +kernel
theorem dX9_split_20 : decode cX9_split 20 = .ok (.if_icmp .ge 11, 3) := by decide +kernel
theorem dX9_split_23 : decode cX9_split 23 = .ok (.aload_n 0, 1) := by decide +kernel
theorem dX9_split_24 : decode cX9_split 24 = .ok (.iload_n 2, 1) := by decide +kernel
theorem dX9_split_25 : decode cX9_split 25 = .ok (.invokevirtual 94, 3) := by decide +kernel
theorem dX9_split_28 : decode cX9_split 28 = .ok (.goto 4, 3) := by decide +kernel
theorem dX9_split_31 : decode cX9_split 31 = .ok (.iconst 0, 1) := by decide +kernel
theorem dX9_split_32 : decode cX9_split 32 = .ok (.iastore, 1) := by decide +kernel
theorem dX9_split_33 : decode cX9_split 33 = .ok (.aload_n 0, 1) := by decide +kernel
theorem dX9_split_34 : decode cX9_split 34 = .ok (.getfield 28, 3) := by decide +kernel
theorem dX9_split_37 : decode cX9_split 37 = .ok (.iload_n 2, 1) := by decide +kernel
theorem dX9_split_38 : decode cX9_split 38 = .ok (.iconst 0, 1) := by decide +kernel
theorem dX9_split_39 : decode cX9_split 39 = .ok (.iastore, 1) := by decide +kernel
theorem dX9_split_40 : decode cX9_split 40 = .ok (.iinc 2 1, 3) := by decide +kernel
theorem dX9_split_43 : decode cX9_split 43 = .ok (.goto (-41), 3) := by decide +kernel
theorem dX9_split_46 : decode cX9_split 46 = .ok (.iload_n 1, 1) := by decide +kernel
theorem dX9_split_47 : decode cX9_split 47 = .ok (.istore_n 2, 1) := by decide +kernel
theorem dX9_split_48 : decode cX9_split 48 = .ok (.iconst 0, 1) := by decide +kernel
theorem dX9_split_49 : decode cX9_split 49 = .ok (.istore_n 3, 1) := by decide +kernel
theorem dX9_split_50 : decode cX9_split 50 = .ok (.iload_n 2, 1) := by decide +kernel
theorem dX9_split_51 : decode cX9_split 51 = .ok (.ifCond .le 181, 3) := by decide +kernel
theorem dX9_split_54 : decode cX9_split 54 = .ok (.iload_n 3, 1) := by decide +kernel
theorem dX9_split_55 : decode cX9_split 55 = .ok (.bipush (-5), 2) := by decide +kernel
theorem dX9_split_57 : decode cX9_split 57 = .ok (.if_icmp .eq 175, 3) := by decide +kernel
theorem dX9_split_60 : decode cX9_split 60 = .ok (.aload_n 0, 1) := by decide +kernel
theorem dX9_split_61 : decode cX9_split 61 = .ok (.invokevirtual 97, 3) := by decide +kernel
theorem dX9_split_64 : decode cX9_split 64 = .ok (.istore 4, 2) := by decide +kernel
theorem dX9_split_66 : decode cX9_split 66 = .ok (.iload_n 2, 1) := by decide +kernel
theorem dX9_split_67 : decode cX9_split 67 = .ok (.istore 5, 2) := by decide +kernel
theorem dX9_split_69 : decode cX9_split 69 = .ok (.bipush (-5), 2) := by decide +kernel
theorem dX9_split_71 : decode cX9_split 71 = .ok (.istore_n 3, 1) := by decide +kernel
theorem dX9_split_72 : decode cX9_split 72 = .ok (.iconst 0, 1) := by decide +kernel
theorem dX9_split_73 : decode cX9_split 73 = .ok (.istore 6, 2) := by decide +kernel
theorem dX9_split_75 : decode cX9_split 75 = .ok (.iload 6, 2) := by decide +kernel
theorem dX9_split_77 : decode cX9_split 77 = .ok (.aload_n 0, 1) := by decide +kernel
theorem dX9_split_78 : decode cX9_split 78 = .ok (.getfield 7, 3) := by decide +kernel
theorem dX9_split_81 : decode cX9_split 81 = .ok (.iconst 2, 1) := by decide +kernel
theorem dX9_split_82 : decode cX9_split 82 = .ok (.iaload, 1) := by decide +kernel
theorem dX9_split_83 : decode cX9_split 83 = .ok (.if_icmp .ge 121, 3) := by decide +kernel
theorem dX9_split_86 : decode cX9_split 86 = .ok (.aload_n 0, 1) := by decide +kernel
theorem dX9_split_87 : decode cX9_split 87 = .ok (.getfield 28, 3) := by decide +kernel
theorem dX9_split_90 : decode cX9_split 90 = .ok (.iload 6, 2) := by decide +kernel
theorem dX9_split_92 : decode cX9_split 92 = .ok (.iaload, 1) := by decide +kernel
theorem dX9_split_93 : decode cX9_split 93 = .ok (.aload_n 0, 1) := by decide +kernel
theorem dX9_split_94 : decode cX9_split 94 = .ok (.getfield 25, 3) := by decide +kernel
theorem dX9_split_97 : decode cX9_split 97 = .ok (.iload 6, 2) := by decide +kernel
theorem dX9_split_99 : decode cX9_split 99 = .ok (.iaload, 1) := by decide +kernel
theorem dX9_split_100 : decode cX9_split 100 = .ok (.if_icmp .ge 98, 3) := by decide +kernel
theorem dX9_split_103 : decode cX9_split 103 = .ok (.iload 4, 2) := by decide +kernel
theorem dX9_split_105 : decode cX9_split 105 = .ok (.ifCond .ne 7, 3) := by decide +kernel
theorem dX9_split_108 : decode cX9_split 108 = .ok (.iconst 0, 1) := by decide +kernel
theorem dX9_split_109 : decode cX9_split 109 = .ok (.goto 15, 3) := by decide +kernel
theorem dX9_split_112 : decode cX9_split 112 = .ok (.iload 5, 2) := by decide +kernel
theorem dX9_split_114 : decode cX9_split 114 = .ok (.aload_n 0, 1) := by decide +kernel
theorem dX9_split_115 : decode cX9_split 115 = .ok (.iload 6, 2) := by decide +kernel
theorem dX9_split_117 : decode cX9_split 117 = .ok (.invokevirtual 91, 3) := by decide +kernel
theorem dX9_split_120 : decode cX9_split 120 = .ok (.imul, 1) := by decide +kernel
theorem dX9_split_121 : decode cX9_split 121 = .ok (.iload 4, 2) := by decide +kernel
theorem dX9_split_123 : decode cX9_split 123 = .ok (.idiv, 1) := by decide +kernel
theorem dX9_split_124 : decode cX9_split 124 = .ok (.istore 7, 2) := by decide +kernel
theorem dX9_split_126 : decode cX9_split 126 = .ok (.iload 7, 2) := by decide +kernel
theorem dX9_split_128 : decode cX9_split 128 = .ok (.aload_n 0, 1) := by decide +kernel
theorem dX9_split_129 : decode cX9_split 129 = .ok (.getfield 25, 3) := by decide +kernel
theorem dX9_split_132 : decode cX9_split 132 = .ok (.iload 6, 2) := by decide +kernel
theorem dX9_split_134 : decode cX9_split 134 = .ok (.iaload, 1) := by decide +kernel
theorem dX9_split_135 : decode cX9_split 135 = .ok (.aload_n 0, 1) := by decide +kernel
theorem dX9_split_136 : decode cX9_split 136 = .ok (.getfield 28, 3) := by decide +kernel
theorem dX9_split_139 : decode cX9_split 139 = .ok (.iload 6, 2) := by decide +kernel
theorem dX9_split_141 : decode cX9_split 141 = .ok (.iaload, 1) := by decide +kernel
theorem dX9_split_142 : decode cX9_split 142 = .ok (.isub, 1) := by decide +kernel
theorem dX9_split_143 : decode cX9_split 143 = .ok (.if_icmp .ge 8, 3) := by decide +kernel
theorem dX9_split_146 : decode cX9_split 146 = .ok (.iload 7, 2) := by decide +kernel
theorem dX9_split_148 : decode cX9_split 148 = .ok (.goto 18, 3) := by decide +kernel
theorem dX9_split_151 : decode cX9_split 151 = .ok (.aload_n 0, 1) := by decide +kernel
theorem dX9_split_152 : decode cX9_split 152 = .ok (.getfield 25, 3) := by decide +kernel
theorem dX9_split_155 : decode cX9_split 155 = .ok (.iload 6, 2) := by decide +kernel
theorem dX9_split_157 : decode cX9_split 157 = .ok (.iaload, 1) := by decide +kernel
theorem dX9_split_158 : decode cX9_split 158 = .ok (.aload_n 0, 1) := by decide +kernel
theorem dX9_split_159 : decode cX9_split 159 = .ok (.getfield 28, 3) := by decide +kernel
theorem dX9_split_162 : decode cX9_split 162 = .ok (.iload 6, 2) := by decide +kernel
theorem dX9_split_164 : decode cX9_split 164 = .ok (.iaload, 1) := by decide +kernel
theorem dX9_split_165 : decode cX9_split 165 = .ok (.isub, 1) := by decide +kernel
theorem dX9_split_166 : decode cX9_split 166 = .ok (.istore 7, 2) := by decide +kernel
theorem dX9_split_168 : decode cX9_split 168 = .ok (.iload_n 3, 1) := by decide +kernel
theorem dX9_split_169 : decode cX9_split 169 = .ok (.bipush (-5), 2) := by decide +kernel
theorem dX9_split_171 : decode cX9_split 171 = .ok (.if_icmp .ne 8, 3) := by decide +kernel
theorem dX9_split_174 : decode cX9_split 174 = .ok (.iload 6, 2) := by decide +kernel
theorem dX9_split_176 : decode cX9_split 176 = .ok (.goto 4, 3) := by decide +kernel
theorem dX9_split_179 : decode cX9_split 179 = .ok (.iload_n 3, 1) := by decide +kernel
theorem dX9_split_180 : decode cX9_split 180 = .ok (.istore_n 3, 1) := by decide +kernel
theorem dX9_split_181 : decode cX9_split 181 = .ok (.aload_n 0, 1) := by decide +kernel
theorem dX9_split_182 : decode cX9_split 182 = .ok (.getfield 28, 3) := by decide +kernel
theorem dX9_split_185 : decode cX9_split 185 = .ok (.iload 6, 2) := by decide +kernel
theorem dX9_split_187 : decode cX9_split 187 = .ok (.dup2, 1) := by decide +kernel
theorem dX9_split_188 : decode cX9_split 188 = .ok (.iaload, 1) := by decide +kernel
theorem dX9_split_189 : decode cX9_split 189 = .ok (.iload 7, 2) := by decide +kernel
theorem dX9_split_191 : decode cX9_split 191 = .ok (.iadd, 1) := by decide +kernel
theorem dX9_split_192 : decode cX9_split 192 = .ok (.iastore, 1) := by decide +kernel
theorem dX9_split_193 : decode cX9_split 193 = .ok (.iload_n 2, 1) := by decide +kernel
theorem dX9_split_194 : decode cX9_split 194 = .ok (.iload 7, 2) := by decide +kernel
theorem dX9_split_196 : decode cX9_split 196 = .ok (.isub, 1) := by decide +kernel
theorem dX9_split_197 : decode cX9_split 197 = .ok (.istore_n 2, 1) := by decide +kernel
theorem dX9_split_198 : decode cX9_split 198 = .ok (.iinc 6 1, 3) := by decide +kernel
theorem dX9_split_201 : decode cX9_split 201 = .ok (.goto (-126), 3) := by decide +kernel
theorem dX9_split_204 : decode cX9_split 204 = .ok (.iload_n 3, 1) := by decide +kernel
theorem dX9_split_205 : decode cX9_split 205 = .ok (.bipush (-5), 2) := by decide +kernel
theorem dX9_split_207 : decode cX9_split 207 = .ok (.if_icmp .eq 22, 3) := by decide +kernel
theorem dX9_split_210 : decode cX9_split 210 = .ok (.iload_n 2, 1) := by decide +kernel
theorem dX9_split_211 : decode cX9_split 211 = .ok (.iload 5, 2) := by decide +kernel
theorem dX9_split_213 : decode cX9_split 213 = .ok (.if_icmp .ne 16, 3) := by decide +kernel
theorem dX9_split_216 : decode cX9_split 216 = .ok (.aload_n 0, 1) := by decide +kernel
theorem dX9_split_217 : decode cX9_split 217 = .ok (.getfield 28, 3) := by decide +kernel
theorem dX9_split_220 : decode cX9_split 220 = .ok (.iload_n 3, 1) := by decide +kernel
theorem dX9_split_221 : decode cX9_split 221 = .ok (.dup2, 1) := by decide +kernel
theorem dX9_split_222 : decode cX9_split 222 = .ok (.iaload, 1) := by decide +kernel
theorem dX9_split_223 : decode cX9_split 223 = .ok (.iconst 1, 1) := by decide +kernel
theorem dX9_split_224 : decode cX9_split 224 = .ok (.iadd, 1) := by decide +kernel
theorem dX9_split_225 : decode cX9_split 225 = .ok (.iastore, 1) := by decide +kernel
theorem dX9_split_226 : decode cX9_split 226 = .ok (.iinc 2 (-1), 3) := by decide +kernel
theorem dX9_split_229 : decode cX9_split 229 = .ok (.goto (-179), 3) := by decide +kernel
theorem dX9_split_232 : decode cX9_split 232 = .ok (.iload_n 1, 1) := by decide +kernel
theorem dX9_split_233 : decode cX9_split 233 = .ok (.iload_n 2, 1) := by decide +kernel
theorem dX9_split_234 : decode cX9_split 234 = .ok (.isub, 1) := by decide +kernel
theorem dX9_split_235 : decode cX9_split 235 = .ok (.ireturn, 1) := by decide +kernel
theorem dX9_heatNow_0 : decode cX9_heatNow 0 = .ok (.aload_n 0, 1) := by decide +kernel
theorem dX9_heatNow_1 : decode cX9_heatNow 1 = .ok (.getfield 7, 3) := by decide +kernel
theorem dX9_heatNow_4 : decode cX9_heatNow 4 = .ok (.iconst 5, 1) := by decide +kernel
theorem dX9_heatNow_5 : decode cX9_heatNow 5 = .ok (.iaload, 1) := by decide +kernel
theorem dX9_heatNow_6 : decode cX9_heatNow 6 = .ok (.aload_n 0, 1) := by decide +kernel
theorem dX9_heatNow_7 : decode cX9_heatNow 7 = .ok (.getfield 7, 3) := by decide +kernel
theorem dX9_heatNow_10 : decode cX9_heatNow 10 = .ok (.bipush 7, 2) := by decide +kernel
theorem dX9_heatNow_12 : decode cX9_heatNow 12 = .ok (.iaload, 1) := by decide +kernel
theorem dX9_heatNow_13 : decode cX9_heatNow 13 = .ok (.if_icmp .ge 12, 3) := by decide +kernel
theorem dX9_heatNow_16 : decode cX9_heatNow 16 = .ok (.aload_n 0, 1) := by decide +kernel
theorem dX9_heatNow_17 : decode cX9_heatNow 17 = .ok (.getfield 7, 3) := by decide +kernel
theorem dX9_heatNow_20 : decode cX9_heatNow 20 = .ok (.iconst 5, 1) := by decide +kernel
theorem dX9_heatNow_21 : decode cX9_heatNow 21 = .ok (.iaload, 1) := by decide +kernel
theorem dX9_heatNow_22 : decode cX9_heatNow 22 = .ok (.goto 10, 3) := by decide +kernel
theorem dX9_heatNow_25 : decode cX9_heatNow 25 = .ok (.aload_n 0, 1) := by decide +kernel
theorem dX9_heatNow_26 : decode cX9_heatNow 26 = .ok (.getfield 7, 3) := by decide +kernel
theorem dX9_heatNow_29 : decode cX9_heatNow 29 = .ok (.bipush 7, 2) := by decide +kernel
theorem dX9_heatNow_31 : decode cX9_heatNow 31 = .ok (.iaload, 1) := by decide +kernel
theorem dX9_heatNow_32 : decode cX9_heatNow 32 = .ok (.ireturn, 1) := by decide +kernel
theorem dX9_fillStore_0 : decode cX9_fillStore 0 = .ok (.aload_n 0, 1) := by decide +kernel
theorem dX9_fillStore_1 : decode cX9_fillStore 1 = .ok (.getfield 7, 3) := by decide +kernel
theorem dX9_fillStore_4 : decode cX9_fillStore 4 = .ok (.bipush 7, 2) := by decide +kernel
theorem dX9_fillStore_6 : decode cX9_fillStore 6 = .ok (.iaload, 1) := by decide +kernel
theorem dX9_fillStore_7 : decode cX9_fillStore 7 = .ok (.istore_n 1, 1) := by decide +kernel
theorem dX9_fillStore_8 : decode cX9_fillStore 8 = .ok (.aload_n 0, 1) := by decide +kernel
theorem dX9_fillStore_9 : decode cX9_fillStore 9 = .ok (.getfield 7, 3) := by decide +kernel
theorem dX9_fillStore_12 : decode cX9_fillStore 12 = .ok (.bipush 7, 2) := by decide +kernel
theorem dX9_fillStore_14 : decode cX9_fillStore 14 = .ok (.iload_n 1, 1) := by decide +kernel
theorem dX9_fillStore_15 : decode cX9_fillStore 15 = .ok (.aload_n 0, 1) := by decide +kernel
theorem dX9_fillStore_16 : decode cX9_fillStore 16 = .ok (.getfield 7, 3) := by decide +kernel
theorem dX9_fillStore_19 : decode cX9_fillStore 19 = .ok (.iconst 4, 1) := by decide +kernel
theorem dX9_fillStore_20 : decode cX9_fillStore 20 = .ok (.iaload, 1) := by decide +kernel
theorem dX9_fillStore_21 : decode cX9_fillStore 21 = .ok (.iadd, 1) := by decide +kernel
theorem dX9_fillStore_22 : decode cX9_fillStore 22 = .ok (.aload_n 0, 1) := by decide +kernel
theorem dX9_fillStore_23 : decode cX9_fillStore 23 = .ok (.getfield 7, 3) := by decide +kernel
theorem dX9_fillStore_26 : decode cX9_fillStore 26 = .ok (.iconst 3, 1) := by decide +kernel
theorem dX9_fillStore_27 : decode cX9_fillStore 27 = .ok (.iaload, 1) := by decide +kernel
theorem dX9_fillStore_28 : decode cX9_fillStore 28 = .ok (.if_icmp .ge 14, 3) := by decide +kernel
theorem dX9_fillStore_31 : decode cX9_fillStore 31 = .ok (.iload_n 1, 1) := by decide +kernel
theorem dX9_fillStore_32 : decode cX9_fillStore 32 = .ok (.aload_n 0, 1) := by decide +kernel
theorem dX9_fillStore_33 : decode cX9_fillStore 33 = .ok (.getfield 7, 3) := by decide +kernel
theorem dX9_fillStore_36 : decode cX9_fillStore 36 = .ok (.iconst 4, 1) := by decide +kernel
theorem dX9_fillStore_37 : decode cX9_fillStore 37 = .ok (.iaload, 1) := by decide +kernel
theorem dX9_fillStore_38 : decode cX9_fillStore 38 = .ok (.iadd, 1) := by decide +kernel
theorem dX9_fillStore_39 : decode cX9_fillStore 39 = .ok (.goto 9, 3) := by decide +kernel
theorem dX9_fillStore_42 : decode cX9_fillStore 42 = .ok (.aload_n 0, 1) := by decide +kernel
theorem dX9_fillStore_43 : decode cX9_fillStore 43 = .ok (.getfield 7, 3) := by decide +kernel
theorem dX9_fillStore_46 : decode cX9_fillStore 46 = .ok (.iconst 3, 1) := by decide +kernel
theorem dX9_fillStore_47 : decode cX9_fillStore 47 = .ok (.iaload, 1) := by decide +kernel
theorem dX9_fillStore_48 : decode cX9_fillStore 48 = .ok (.iastore, 1) := by decide +kernel
theorem dX9_fillStore_49 : decode cX9_fillStore 49 = .ok (.aload_n 0, 1) := by decide +kernel
theorem dX9_fillStore_50 : decode cX9_fillStore 50 = .ok (.getfield 7, 3) := by decide +kernel
theorem dX9_fillStore_53 : decode cX9_fillStore 53 = .ok (.bipush 13, 2) := by decide +kernel
theorem dX9_fillStore_55 : decode cX9_fillStore 55 = .ok (.dup2, 1) := by decide +kernel
theorem dX9_fillStore_56 : decode cX9_fillStore 56 = .ok (.iaload, 1) := by decide +kernel
theorem dX9_fillStore_57 : decode cX9_fillStore 57 = .ok (.aload_n 0, 1) := by decide +kernel
theorem dX9_fillStore_58 : decode cX9_fillStore 58 = .ok (.getfield 7, 3) := by decide +kernel
theorem dX9_fillStore_61 : decode cX9_fillStore 61 = .ok (.bipush 7, 2) := by decide +kernel
theorem dX9_fillStore_63 : decode cX9_fillStore 63 = .ok (.iaload, 1) := by decide +kernel
theorem dX9_fillStore_64 : decode cX9_fillStore 64 = .ok (.iload_n 1, 1) := by decide +kernel
theorem dX9_fillStore_65 : decode cX9_fillStore 65 = .ok (.isub, 1) := by decide +kernel
theorem dX9_fillStore_66 : decode cX9_fillStore 66 = .ok (.iadd, 1) := by decide +kernel
theorem dX9_fillStore_67 : decode cX9_fillStore 67 = .ok (.iastore, 1) := by decide +kernel
theorem dX9_fillStore_68 : decode cX9_fillStore 68 = .ok (.return_, 1) := by decide +kernel
theorem dX9_beginPhase_0 : decode cX9_beginPhase 0 = .ok (.aload_n 0, 1) := by decide +kernel
theorem dX9_beginPhase_1 : decode cX9_beginPhase 1 = .ok (.iload_n 1, 1) := by decide +kernel
theorem dX9_beginPhase_2 : decode cX9_beginPhase 2 = .ok (.bipush 10, 2) := by decide +kernel
theorem dX9_beginPhase_4 : decode cX9_beginPhase 4 = .ok (.iload_n 2, 1) := by decide +kernel
theorem dX9_beginPhase_5 : decode cX9_beginPhase 5 = .ok (.invokevirtual 63, 3) := by decide +kernel
theorem dX9_beginPhase_8 : decode cX9_beginPhase 8 = .ok (.aload_n 0, 1) := by decide +kernel
theorem dX9_beginPhase_9 : decode cX9_beginPhase 9 = .ok (.iload_n 1, 1) := by decide +kernel
theorem dX9_beginPhase_10 : decode cX9_beginPhase 10 = .ok (.bipush 14, 2) := by decide +kernel
theorem dX9_beginPhase_12 : decode cX9_beginPhase 12 = .ok (.iconst 0, 1) := by decide +kernel
theorem dX9_beginPhase_13 : decode cX9_beginPhase 13 = .ok (.invokevirtual 63, 3) := by decide +kernel
theorem dX9_beginPhase_16 : decode cX9_beginPhase 16 = .ok (.aload_n 0, 1) := by decide +kernel
theorem dX9_beginPhase_17 : decode cX9_beginPhase 17 = .ok (.iload_n 1, 1) := by decide +kernel
theorem dX9_beginPhase_18 : decode cX9_beginPhase 18 = .ok (.bipush 16, 2) := by decide +kernel
theorem dX9_beginPhase_20 : decode cX9_beginPhase 20 = .ok (.iconst 0, 1) := by decide +kernel
theorem dX9_beginPhase_21 : decode cX9_beginPhase 21 = .ok (.invokevirtual 63, 3) := by decide +kernel
theorem dX9_beginPhase_24 : decode cX9_beginPhase 24 = .ok (.return_, 1) := by decide +kernel
theorem dX9_fills_0 : decode cX9_fills 0 = .ok (.aload_n 0, 1) := by decide +kernel
theorem dX9_fills_1 : decode cX9_fills 1 = .ok (.iload_n 1, 1) := by decide +kernel
theorem dX9_fills_2 : decode cX9_fills 2 = .ok (.invokevirtual 88, 3) := by decide +kernel
theorem dX9_fills_5 : decode cX9_fills 5 = .ok (.aload_n 0, 1) := by decide +kernel
theorem dX9_fills_6 : decode cX9_fills 6 = .ok (.iload_n 1, 1) := by decide +kernel
theorem dX9_fills_7 : decode cX9_fills 7 = .ok (.bipush 16, 2) := by decide +kernel
theorem dX9_fills_9 : decode cX9_fills 9 = .ok (.invokevirtual 49, 3) := by decide +kernel
theorem dX9_fills_12 : decode cX9_fills 12 = .ok (.isub, 1) := by decide +kernel
theorem dX9_fills_13 : decode cX9_fills 13 = .ok (.istore_n 2, 1) := by decide +kernel
theorem dX9_fills_14 : decode cX9_fills 14 = .ok (.iload_n 2, 1) := by decide +kernel
theorem dX9_fills_15 : decode cX9_fills 15 = .ok (.bipush 6, 2) := by decide +kernel
theorem dX9_fills_17 : decode cX9_fills 17 = .ok (.if_icmp .ge 7, 3) := by decide +kernel
theorem dX9_fills_20 : decode cX9_fills 20 = .ok (.iload_n 2, 1) := by decide +kernel
theorem dX9_fills_21 : decode cX9_fills 21 = .ok (.goto 5, 3) := by decide +kernel
theorem dX9_fills_24 : decode cX9_fills 24 = .ok (.bipush 6, 2) := by decide +kernel
theorem dX9_fills_26 : decode cX9_fills 26 = .ok (.istore_n 3, 1) := by decide +kernel
theorem dX9_fills_27 : decode cX9_fills 27 = .ok (.aload_n 0, 1) := by decide +kernel
theorem dX9_fills_28 : decode cX9_fills 28 = .ok (.iload_n 1, 1) := by decide +kernel
theorem dX9_fills_29 : decode cX9_fills 29 = .ok (.bipush 16, 2) := by decide +kernel
theorem dX9_fills_31 : decode cX9_fills 31 = .ok (.iload_n 3, 1) := by decide +kernel
theorem dX9_fills_32 : decode cX9_fills 32 = .ok (.invokevirtual 101, 3) := by decide +kernel
theorem dX9_fills_35 : decode cX9_fills 35 = .ok (.aload_n 0, 1) := by decide +kernel
theorem dX9_fills_36 : decode cX9_fills 36 = .ok (.iload_n 1, 1) := by decide +kernel
theorem dX9_fills_37 : decode cX9_fills 37 = .ok (.bipush 17, 2) := by decide +kernel
theorem dX9_fills_39 : decode cX9_fills 39 = .ok (.iload_n 3, 1) := by decide +kernel
theorem dX9_fills_40 : decode cX9_fills 40 = .ok (.invokevirtual 101, 3) := by decide +kernel
theorem dX9_fills_43 : decode cX9_fills 43 = .ok (.aload_n 0, 1) := by decide +kernel
theorem dX9_fills_44 : decode cX9_fills 44 = .ok (.iload_n 1, 1) := by decide +kernel
theorem dX9_fills_45 : decode cX9_fills 45 = .ok (.bipush 11, 2) := by decide +kernel
theorem dX9_fills_47 : decode cX9_fills 47 = .ok (.iload_n 3, 1) := by decide +kernel
theorem dX9_fills_48 : decode cX9_fills 48 = .ok (.invokevirtual 101, 3) := by decide +kernel
theorem dX9_fills_51 : decode cX9_fills 51 = .ok (.aload_n 0, 1) := by decide +kernel
theorem dX9_fills_52 : decode cX9_fills 52 = .ok (.iload_n 1, 1) := by decide +kernel
theorem dX9_fills_53 : decode cX9_fills 53 = .ok (.bipush 12, 2) := by decide +kernel
theorem dX9_fills_55 : decode cX9_fills 55 = .ok (.bipush 60, 2) := by decide +kernel
theorem dX9_fills_57 : decode cX9_fills 57 = .ok (.iload_n 3, 1) := by decide +kernel
theorem dX9_fills_58 : decode cX9_fills 58 = .ok (.imul, 1) := by decide +kernel
theorem dX9_fills_59 : decode cX9_fills 59 = .ok (.invokevirtual 101, 3) := by decide +kernel
theorem dX9_fills_62 : decode cX9_fills 62 = .ok (.return_, 1) := by decide +kernel
theorem dX9_drains_0 : decode cX9_drains 0 = .ok (.aload_n 0, 1) := by decide +kernel
theorem dX9_drains_1 : decode cX9_drains 1 = .ok (.iload_n 1, 1) := by decide +kernel
theorem dX9_drains_2 : decode cX9_drains 2 = .ok (.bipush 11, 2) := by decide +kernel
theorem dX9_drains_4 : decode cX9_drains 4 = .ok (.invokevirtual 49, 3) := by decide +kernel
theorem dX9_drains_7 : decode cX9_drains 7 = .ok (.istore_n 2, 1) := by decide +kernel
theorem dX9_drains_8 : decode cX9_drains 8 = .ok (.iload_n 2, 1) := by decide +kernel
theorem dX9_drains_9 : decode cX9_drains 9 = .ok (.bipush 12, 2) := by decide +kernel
theorem dX9_drains_11 : decode cX9_drains 11 = .ok (.if_icmp .ge 7, 3) := by decide +kernel
theorem dX9_drains_14 : decode cX9_drains 14 = .ok (.iconst 0, 1) := by decide +kernel
theorem dX9_drains_15 : decode cX9_drains 15 = .ok (.goto 7, 3) := by decide +kernel
theorem dX9_drains_18 : decode cX9_drains 18 = .ok (.iload_n 2, 1) := by decide +kernel
theorem dX9_drains_19 : decode cX9_drains 19 = .ok (.bipush 12, 2) := by decide +kernel
theorem dX9_drains_21 : decode cX9_drains 21 = .ok (.isub, 1) := by decide +kernel
theorem dX9_drains_22 : decode cX9_drains 22 = .ok (.istore_n 3, 1) := by decide +kernel
theorem dX9_drains_23 : decode cX9_drains 23 = .ok (.aload_n 0, 1) := by decide +kernel
theorem dX9_drains_24 : decode cX9_drains 24 = .ok (.iload_n 1, 1) := by decide +kernel
theorem dX9_drains_25 : decode cX9_drains 25 = .ok (.bipush 11, 2) := by decide +kernel
theorem dX9_drains_27 : decode cX9_drains 27 = .ok (.iload_n 3, 1) := by decide +kernel
theorem dX9_drains_28 : decode cX9_drains 28 = .ok (.invokevirtual 63, 3) := by decide +kernel
theorem dX9_drains_31 : decode cX9_drains 31 = .ok (.aload_n 0, 1) := by decide +kernel
theorem dX9_drains_32 : decode cX9_drains 32 = .ok (.iload_n 1, 1) := by decide +kernel
theorem dX9_drains_33 : decode cX9_drains 33 = .ok (.bipush 12, 2) := by decide +kernel
theorem dX9_drains_35 : decode cX9_drains 35 = .ok (.iload_n 2, 1) := by decide +kernel
theorem dX9_drains_36 : decode cX9_drains 36 = .ok (.ifCond .ne 7, 3) := by decide +kernel
theorem dX9_drains_39 : decode cX9_drains 39 = .ok (.iconst 0, 1) := by decide +kernel
theorem dX9_drains_40 : decode cX9_drains 40 = .ok (.goto 18, 3) := by decide +kernel
theorem dX9_drains_43 : decode cX9_drains 43 = .ok (.aload_n 0, 1) := by decide +kernel
theorem dX9_drains_44 : decode cX9_drains 44 = .ok (.iload_n 1, 1) := by decide +kernel
theorem dX9_drains_45 : decode cX9_drains 45 = .ok (.bipush 12, 2) := by decide +kernel
theorem dX9_drains_47 : decode cX9_drains 47 = .ok (.invokevirtual 49, 3) := by decide +kernel
theorem dX9_drains_50 : decode cX9_drains 50 = .ok (.i2l, 1) := by decide +kernel
theorem dX9_drains_51 : decode cX9_drains 51 = .ok (.iload_n 3, 1) := by decide +kernel
theorem dX9_drains_52 : decode cX9_drains 52 = .ok (.i2l, 1) := by decide +kernel
theorem dX9_drains_53 : decode cX9_drains 53 = .ok (.lmul, 1) := by decide +kernel
theorem dX9_drains_54 : decode cX9_drains 54 = .ok (.iload_n 2, 1) := by decide +kernel
theorem dX9_drains_55 : decode cX9_drains 55 = .ok (.i2l, 1) := by decide +kernel
theorem dX9_drains_56 : decode cX9_drains 56 = .ok (.ldiv, 1) := by decide +kernel
theorem dX9_drains_57 : decode cX9_drains 57 = .ok (.l2i, 1) := by decide +kernel
theorem dX9_drains_58 : decode cX9_drains 58 = .ok (.invokevirtual 63, 3) := by decide +kernel
theorem dX9_drains_61 : decode cX9_drains 61 = .ok (.return_, 1) := by decide +kernel
theorem dX9_isOver_0 : decode cX9_isOver 0 = .ok (.aload_n 0, 1) := by decide +kernel
theorem dX9_isOver_1 : decode cX9_isOver 1 = .ok (.iload_n 1, 1) := by decide +kernel
theorem dX9_isOver_2 : decode cX9_isOver 2 = .ok (.invokevirtual 82, 3) := by decide +kernel
theorem dX9_isOver_5 : decode cX9_isOver 5 = .ok (.tableswitch 91 100 104 #[75, 91, 35, 91, 56], 35) := by decide +kernel
theorem dX9_isOver_40 : decode cX9_isOver 40 = .ok (.aload_n 0, 1) := by decide +kernel
theorem dX9_isOver_41 : decode cX9_isOver 41 = .ok (.iload_n 1, 1) := by decide +kernel
theorem dX9_isOver_42 : decode cX9_isOver 42 = .ok (.bipush 16, 2) := by decide +kernel
theorem dX9_isOver_44 : decode cX9_isOver 44 = .ok (.invokevirtual 49, 3) := by decide +kernel
theorem dX9_isOver_47 : decode cX9_isOver 47 = .ok (.aload_n 0, 1) := by decide +kernel
theorem dX9_isOver_48 : decode cX9_isOver 48 = .ok (.iload_n 1, 1) := by decide +kernel
theorem dX9_isOver_49 : decode cX9_isOver 49 = .ok (.invokevirtual 88, 3) := by decide +kernel
theorem dX9_isOver_52 : decode cX9_isOver 52 = .ok (.if_icmp .ne 7, 3) := by decide +kernel
theorem dX9_isOver_55 : decode cX9_isOver 55 = .ok (.iconst 1, 1) := by decide +kernel
theorem dX9_isOver_56 : decode cX9_isOver 56 = .ok (.goto 4, 3) := by decide +kernel
theorem dX9_isOver_59 : decode cX9_isOver 59 = .ok (.iconst 0, 1) := by decide +kernel
theorem dX9_isOver_60 : decode cX9_isOver 60 = .ok (.ireturn, 1) := by decide +kernel
theorem dX9_isOver_61 : decode cX9_isOver 61 = .ok (.aload_n 0, 1) := by decide +kernel
theorem dX9_isOver_62 : decode cX9_isOver 62 = .ok (.iload_n 1, 1) := by decide +kernel
theorem dX9_isOver_63 : decode cX9_isOver 63 = .ok (.invokevirtual 68, 3) := by decide +kernel
theorem dX9_isOver_66 : decode cX9_isOver 66 = .ok (.aload_n 0, 1) := by decide +kernel
theorem dX9_isOver_67 : decode cX9_isOver 67 = .ok (.iload_n 1, 1) := by decide +kernel
theorem dX9_isOver_68 : decode cX9_isOver 68 = .ok (.invokevirtual 88, 3) := by decide +kernel
theorem dX9_isOver_71 : decode cX9_isOver 71 = .ok (.if_icmp .lt 7, 3) := by decide +kernel
theorem dX9_isOver_74 : decode cX9_isOver 74 = .ok (.iconst 1, 1) := by decide +kernel
theorem dX9_isOver_75 : decode cX9_isOver 75 = .ok (.goto 4, 3) := by decide +kernel
theorem dX9_isOver_78 : decode cX9_isOver 78 = .ok (.iconst 0, 1) := by decide +kernel
theorem dX9_isOver_79 : decode cX9_isOver 79 = .ok (.ireturn, 1) := by decide +kernel
theorem dX9_isOver_80 : decode cX9_isOver 80 = .ok (.aload_n 0, 1) := by decide +kernel
theorem dX9_isOver_81 : decode cX9_isOver 81 = .ok (.iload_n 1, 1) := by decide +kernel
theorem dX9_isOver_82 : decode cX9_isOver 82 = .ok (.bipush 11, 2) := by decide +kernel
theorem dX9_isOver_84 : decode cX9_isOver 84 = .ok (.invokevirtual 49, 3) := by decide +kernel
theorem dX9_isOver_87 : decode cX9_isOver 87 = .ok (.ifCond .ne 7, 3) := by decide +kernel
theorem dX9_isOver_90 : decode cX9_isOver 90 = .ok (.iconst 1, 1) := by decide +kernel
theorem dX9_isOver_91 : decode cX9_isOver 91 = .ok (.goto 4, 3) := by decide +kernel
theorem dX9_isOver_94 : decode cX9_isOver 94 = .ok (.iconst 0, 1) := by decide +kernel
theorem dX9_isOver_95 : decode cX9_isOver 95 = .ok (.ireturn, 1) := by decide +kernel
theorem dX9_isOver_96 : decode cX9_isOver 96 = .ok (.aload_n 0, 1) := by decide +kernel
theorem dX9_isOver_97 : decode cX9_isOver 97 = .ok (.iload_n 1, 1) := by decide +kernel
theorem dX9_isOver_98 : decode cX9_isOver 98 = .ok (.bipush 14, 2) := by decide +kernel
theorem dX9_isOver_100 : decode cX9_isOver 100 = .ok (.invokevirtual 49, 3) := by decide +kernel
theorem dX9_isOver_103 : decode cX9_isOver 103 = .ok (.aload_n 0, 1) := by decide +kernel
theorem dX9_isOver_104 : decode cX9_isOver 104 = .ok (.iload_n 1, 1) := by decide +kernel
theorem dX9_isOver_105 : decode cX9_isOver 105 = .ok (.invokevirtual 88, 3) := by decide +kernel
theorem dX9_isOver_108 : decode cX9_isOver 108 = .ok (.if_icmp .lt 7, 3) := by decide +kernel
theorem dX9_isOver_111 : decode cX9_isOver 111 = .ok (.iconst 1, 1) := by decide +kernel
theorem dX9_isOver_112 : decode cX9_isOver 112 = .ok (.goto 4, 3) := by decide +kernel
theorem dX9_isOver_115 : decode cX9_isOver 115 = .ok (.iconst 0, 1) := by decide +kernel
theorem dX9_isOver_116 : decode cX9_isOver 116 = .ok (.ireturn, 1) := by decide +kernel
theorem dX9_works_0 : decode cX9_works 0 = .ok (.aload_n 0, 1) := by decide +kernel
theorem dX9_works_1 : decode cX9_works 1 = .ok (.iload_n 1, 1) := by decide +kernel
theorem dX9_works_2 : decode cX9_works 2 = .ok (.invokevirtual 82, 3) := by decide +kernel
theorem dX9_works_5 : decode cX9_works 5 = .ok (.istore_n 2, 1) := by decide +kernel
theorem dX9_works_6 : decode cX9_works 6 = .ok (.aload_n 0, 1) := by decide +kernel
theorem dX9_works_7 : decode cX9_works 7 = .ok (.iload_n 1, 1) := by decide +kernel
theorem dX9_works_8 : decode cX9_works 8 = .ok (.bipush 11, 2) := by decide +kernel
theorem dX9_works_10 : decode cX9_works 10 = .ok (.invokevirtual 49, 3) := by decide +kernel
theorem dX9_works_13 : decode cX9_works 13 = .ok (.ifCond .ne 7, 3) := by decide +kernel
theorem dX9_works_16 : decode cX9_works 16 = .ok (.iconst 1, 1) := by decide +kernel
theorem dX9_works_17 : decode cX9_works 17 = .ok (.goto 4, 3) := by decide +kernel
theorem dX9_works_20 : decode cX9_works 20 = .ok (.iconst 0, 1) := by decide +kernel
theorem dX9_works_21 : decode cX9_works 21 = .ok (.istore_n 3, 1) := by decide +kernel
theorem dX9_works_22 : decode cX9_works 22 = .ok (.iload_n 2, 1) := by decide +kernel
theorem dX9_works_23 : decode cX9_works 23 = .ok (.bipush 104, 2) := by decide +kernel
theorem dX9_works_25 : decode cX9_works 25 = .ok (.if_icmp .ne 7, 3) := by decide +kernel
theorem dX9_works_28 : decode cX9_works 28 = .ok (.iload_n 3, 1) := by decide +kernel
theorem dX9_works_29 : decode cX9_works 29 = .ok (.ifCond .ne 13, 3) := by decide +kernel
theorem dX9_works_32 : decode cX9_works 32 = .ok (.iload_n 2, 1) := by decide +kernel
theorem dX9_works_33 : decode cX9_works 33 = .ok (.bipush 115, 2) := by decide +kernel
theorem dX9_works_35 : decode cX9_works 35 = .ok (.if_icmp .ne 16, 3) := by decide +kernel
theorem dX9_works_38 : decode cX9_works 38 = .ok (.iload_n 3, 1) := by decide +kernel
theorem dX9_works_39 : decode cX9_works 39 = .ok (.ifCond .ne 12, 3) := by decide +kernel
theorem dX9_works_42 : decode cX9_works 42 = .ok (.aload_n 0, 1) := by decide +kernel
theorem dX9_works_43 : decode cX9_works 43 = .ok (.iload_n 1, 1) := by decide +kernel
theorem dX9_works_44 : decode cX9_works 44 = .ok (.bipush 9, 2) := by decide +kernel
theorem dX9_works_46 : decode cX9_works 46 = .ok (.iconst 2, 1) := by decide +kernel
theorem dX9_works_47 : decode cX9_works 47 = .ok (.invokevirtual 63, 3) := by decide +kernel
theorem dX9_works_50 : decode cX9_works 50 = .ok (.return_, 1) := by decide +kernel
theorem dX9_works_51 : decode cX9_works 51 = .ok (.iload_n 2, 1) := by decide +kernel
theorem dX9_works_52 : decode cX9_works 52 = .ok (.bipush 102, 2) := by decide +kernel
theorem dX9_works_54 : decode cX9_works 54 = .ok (.if_icmp .ne 11, 3) := by decide +kernel
theorem dX9_works_57 : decode cX9_works 57 = .ok (.aload_n 0, 1) := by decide +kernel
theorem dX9_works_58 : decode cX9_works 58 = .ok (.iload_n 1, 1) := by decide +kernel
theorem dX9_works_59 : decode cX9_works 59 = .ok (.invokevirtual 104, 3) := by decide +kernel
theorem dX9_works_62 : decode cX9_works 62 = .ok (.goto 36, 3) := by decide +kernel
theorem dX9_works_65 : decode cX9_works 65 = .ok (.iload_n 2, 1) := by decide +kernel
theorem dX9_works_66 : decode cX9_works 66 = .ok (.bipush 100, 2) := by decide +kernel
theorem dX9_works_68 : decode cX9_works 68 = .ok (.if_icmp .ne 11, 3) := by decide +kernel
theorem dX9_works_71 : decode cX9_works 71 = .ok (.aload_n 0, 1) := by decide +kernel
theorem dX9_works_72 : decode cX9_works 72 = .ok (.iload_n 1, 1) := by decide +kernel
theorem dX9_works_73 : decode cX9_works 73 = .ok (.invokevirtual 108, 3) := by decide +kernel
theorem dX9_works_76 : decode cX9_works 76 = .ok (.goto 22, 3) := by decide +kernel
theorem dX9_works_79 : decode cX9_works 79 = .ok (.iload_n 2, 1) := by decide +kernel
theorem dX9_works_80 : decode cX9_works 80 = .ok (.bipush 104, 2) := by decide +kernel
theorem dX9_works_82 : decode cX9_works 82 = .ok (.if_icmp .ne 16, 3) := by decide +kernel
theorem dX9_works_85 : decode cX9_works 85 = .ok (.aload_n 0, 1) := by decide +kernel
theorem dX9_works_86 : decode cX9_works 86 = .ok (.iload_n 1, 1) := by decide +kernel
theorem dX9_works_87 : decode cX9_works 87 = .ok (.bipush 12, 2) := by decide +kernel
theorem dX9_works_89 : decode cX9_works 89 = .ok (.aload_n 0, 1) := by decide +kernel
theorem dX9_works_90 : decode cX9_works 90 = .ok (.getfield 28, 3) := by decide +kernel
theorem dX9_works_93 : decode cX9_works 93 = .ok (.iload_n 1, 1) := by decide +kernel
theorem dX9_works_94 : decode cX9_works 94 = .ok (.iaload, 1) := by decide +kernel
theorem dX9_works_95 : decode cX9_works 95 = .ok (.invokevirtual 101, 3) := by decide +kernel
theorem dX9_works_98 : decode cX9_works 98 = .ok (.aload_n 0, 1) := by decide +kernel
theorem dX9_works_99 : decode cX9_works 99 = .ok (.iload_n 1, 1) := by decide +kernel
theorem dX9_works_100 : decode cX9_works 100 = .ok (.bipush 14, 2) := by decide +kernel
theorem dX9_works_102 : decode cX9_works 102 = .ok (.iconst 1, 1) := by decide +kernel
theorem dX9_works_103 : decode cX9_works 103 = .ok (.invokevirtual 101, 3) := by decide +kernel
theorem dX9_works_106 : decode cX9_works 106 = .ok (.aload_n 0, 1) := by decide +kernel
theorem dX9_works_107 : decode cX9_works 107 = .ok (.iload_n 1, 1) := by decide +kernel
theorem dX9_works_108 : decode cX9_works 108 = .ok (.invokevirtual 111, 3) := by decide +kernel
theorem dX9_works_111 : decode cX9_works 111 = .ok (.ifCond .ne 4, 3) := by decide +kernel
theorem dX9_works_114 : decode cX9_works 114 = .ok (.return_, 1) := by decide +kernel
theorem dX9_works_115 : decode cX9_works 115 = .ok (.aload_n 0, 1) := by decide +kernel
theorem dX9_works_116 : decode cX9_works 116 = .ok (.iload_n 1, 1) := by decide +kernel
theorem dX9_works_117 : decode cX9_works 117 = .ok (.bipush 10, 2) := by decide +kernel
theorem dX9_works_119 : decode cX9_works 119 = .ok (.invokevirtual 49, 3) := by decide +kernel
theorem dX9_works_122 : decode cX9_works 122 = .ok (.iconst 1, 1) := by decide +kernel
theorem dX9_works_123 : decode cX9_works 123 = .ok (.iadd, 1) := by decide +kernel
theorem dX9_works_124 : decode cX9_works 124 = .ok (.aload_n 0, 1) := by decide +kernel
theorem dX9_works_125 : decode cX9_works 125 = .ok (.iload_n 1, 1) := by decide +kernel
theorem dX9_works_126 : decode cX9_works 126 = .ok (.bipush 15, 2) := by decide +kernel
theorem dX9_works_128 : decode cX9_works 128 = .ok (.invokevirtual 49, 3) := by decide +kernel
theorem dX9_works_131 : decode cX9_works 131 = .ok (.if_icmp .ge 20, 3) := by decide +kernel
theorem dX9_works_134 : decode cX9_works 134 = .ok (.aload_n 0, 1) := by decide +kernel
theorem dX9_works_135 : decode cX9_works 135 = .ok (.iload_n 1, 1) := by decide +kernel
theorem dX9_works_136 : decode cX9_works 136 = .ok (.aload_n 0, 1) := by decide +kernel
theorem dX9_works_137 : decode cX9_works 137 = .ok (.iload_n 1, 1) := by decide +kernel
theorem dX9_works_138 : decode cX9_works 138 = .ok (.bipush 10, 2) := by decide +kernel
theorem dX9_works_140 : decode cX9_works 140 = .ok (.invokevirtual 49, 3) := by decide +kernel
theorem dX9_works_143 : decode cX9_works 143 = .ok (.iconst 1, 1) := by decide +kernel
theorem dX9_works_144 : decode cX9_works 144 = .ok (.iadd, 1) := by decide +kernel
theorem dX9_works_145 : decode cX9_works 145 = .ok (.invokevirtual 114, 3) := by decide +kernel
theorem dX9_works_148 : decode cX9_works 148 = .ok (.goto 29, 3) := by decide +kernel
theorem dX9_works_151 : decode cX9_works 151 = .ok (.aload_n 0, 1) := by decide +kernel
theorem dX9_works_152 : decode cX9_works 152 = .ok (.iload_n 1, 1) := by decide +kernel
theorem dX9_works_153 : decode cX9_works 153 = .ok (.bipush 9, 2) := by decide +kernel
theorem dX9_works_155 : decode cX9_works 155 = .ok (.iconst 0, 1) := by decide +kernel
theorem dX9_works_156 : decode cX9_works 156 = .ok (.invokevirtual 63, 3) := by decide +kernel
theorem dX9_works_159 : decode cX9_works 159 = .ok (.aload_n 0, 1) := by decide +kernel
theorem dX9_works_160 : decode cX9_works 160 = .ok (.iload_n 1, 1) := by decide +kernel
theorem dX9_works_161 : decode cX9_works 161 = .ok (.iconst 4, 1) := by decide +kernel
theorem dX9_works_162 : decode cX9_works 162 = .ok (.iconst 1, 1) := by decide +kernel
theorem dX9_works_163 : decode cX9_works 163 = .ok (.invokevirtual 101, 3) := by decide +kernel
theorem dX9_works_166 : decode cX9_works 166 = .ok (.aload_n 0, 1) := by decide +kernel
theorem dX9_works_167 : decode cX9_works 167 = .ok (.getfield 7, 3) := by decide +kernel
theorem dX9_works_170 : decode cX9_works 170 = .ok (.bipush 12, 2) := by decide +kernel
theorem dX9_works_172 : decode cX9_works 172 = .ok (.dup2, 1) := by decide +kernel
theorem dX9_works_173 : decode cX9_works 173 = .ok (.iaload, 1) := by decide +kernel
theorem dX9_works_174 : decode cX9_works 174 = .ok (.iconst 1, 1) := by decide +kernel
theorem dX9_works_175 : decode cX9_works 175 = .ok (.iadd, 1) := by decide +kernel
theorem dX9_works_176 : decode cX9_works 176 = .ok (.iastore, 1) := by decide +kernel
theorem dX9_works_177 : decode cX9_works 177 = .ok (.return_, 1) := by decide +kernel
theorem dX9_powered_0 : decode cX9_powered 0 = .ok (.aload_n 0, 1) := by decide +kernel
theorem dX9_powered_1 : decode cX9_powered 1 = .ok (.invokevirtual 118, 3) := by decide +kernel
theorem dX9_powered_4 : decode cX9_powered 4 = .ok (.aload_n 0, 1) := by decide +kernel
theorem dX9_powered_5 : decode cX9_powered 5 = .ok (.aload_n 0, 1) := by decide +kernel
theorem dX9_powered_6 : decode cX9_powered 6 = .ok (.invokevirtual 121, 3) := by decide +kernel
theorem dX9_powered_9 : decode cX9_powered 9 = .ok (.invokevirtual 124, 3) := by decide +kernel
theorem dX9_powered_12 : decode cX9_powered 12 = .ok (.istore_n 1, 1) := by decide +kernel
theorem dX9_powered_13 : decode cX9_powered 13 = .ok (.aload_n 0, 1) := by decide +kernel
theorem dX9_powered_14 : decode cX9_powered 14 = .ok (.getfield 7, 3) := by decide +kernel
theorem dX9_powered_17 : decode cX9_powered 17 = .ok (.bipush 7, 2) := by decide +kernel
theorem dX9_powered_19 : decode cX9_powered 19 = .ok (.dup2, 1) := by decide +kernel
theorem dX9_powered_20 : decode cX9_powered 20 = .ok (.iaload, 1) := by decide +kernel
theorem dX9_powered_21 : decode cX9_powered 21 = .ok (.iload_n 1, 1) := by decide +kernel
theorem dX9_powered_22 : decode cX9_powered 22 = .ok (.isub, 1) := by decide +kernel
theorem dX9_powered_23 : decode cX9_powered 23 = .ok (.iastore, 1) := by decide +kernel
theorem dX9_powered_24 : decode cX9_powered 24 = .ok (.aload_n 0, 1) := by decide +kernel
theorem dX9_powered_25 : decode cX9_powered 25 = .ok (.getfield 7, 3) := by decide +kernel
theorem dX9_powered_28 : decode cX9_powered 28 = .ok (.bipush 14, 2) := by decide +kernel
theorem dX9_powered_30 : decode cX9_powered 30 = .ok (.dup2, 1) := by decide +kernel
theorem dX9_powered_31 : decode cX9_powered 31 = .ok (.iaload, 1) := by decide +kernel
theorem dX9_powered_32 : decode cX9_powered 32 = .ok (.iload_n 1, 1) := by decide +kernel
theorem dX9_powered_33 : decode cX9_powered 33 = .ok (.iadd, 1) := by decide +kernel
theorem dX9_powered_34 : decode cX9_powered 34 = .ok (.iastore, 1) := by decide +kernel
theorem dX9_powered_35 : decode cX9_powered 35 = .ok (.iconst 0, 1) := by decide +kernel
theorem dX9_powered_36 : decode cX9_powered 36 = .ok (.istore_n 2, 1) := by decide +kernel
theorem dX9_powered_37 : decode cX9_powered 37 = .ok (.iload_n 2, 1) := by decide +kernel
end
section
theorem dX9_powered_38 : decode cX9_powered 38 = .ok (.aload_n 0, 1) := by decide +kernel
theorem dX9_powered_39 : decode cX9_powered 39 = .ok (.getfield 7, 3) := by decide +kernel
theorem dX9_powered_42 : decode cX9_powered 42 = .ok (.iconst 2, 1) := by decide +kernel
theorem dX9_powered_43 : decode cX9_powered 43 = .ok (.iaload, 1) := by decide +kernel
theorem dX9_powered_44 : decode cX9_powered 44 = .ok (.if_icmp .ge 34, 3) := by decide +kernel
theorem dX9_powered_47 : decode cX9_powered 47 = .ok (.aload_n 0, 1) := by decide +kernel
theorem dX9_powered_48 : decode cX9_powered 48 = .ok (.iload_n 2, 1) := by decide +kernel
theorem dX9_powered_49 : decode cX9_powered 49 = .ok (.iconst 3, 1) := by decide +kernel
theorem dX9_powered_50 : decode cX9_powered 50 = .ok (.aload_n 0, 1) := by decide +kernel
theorem dX9_powered_51 : decode cX9_powered 51 = .ok (.getfield 28, 3) := by decide +kernel
theorem dX9_powered_54 : decode cX9_powered 54 = .ok (.iload_n 2, 1) := by decide +kernel
theorem dX9_powered_55 : decode cX9_powered 55 = .ok (.iaload, 1) := by decide +kernel
theorem dX9_powered_56 : decode cX9_powered 56 = .ok (.invokevirtual 101, 3) := by decide +kernel
theorem dX9_powered_59 : decode cX9_powered 59 = .ok (.aload_n 0, 1) := by decide +kernel
theorem dX9_powered_60 : decode cX9_powered 60 = .ok (.iload_n 2, 1) := by decide +kernel
theorem dX9_powered_61 : decode cX9_powered 61 = .ok (.invokevirtual 79, 3) := by decide +kernel
theorem dX9_powered_64 : decode cX9_powered 64 = .ok (.ifCond .eq 8, 3) := by decide +kernel
theorem dX9_powered_67 : decode cX9_powered 67 = .ok (.aload_n 0, 1) := by decide +kernel
theorem dX9_powered_68 : decode cX9_powered 68 = .ok (.iload_n 2, 1) := by decide +kernel
theorem dX9_powered_69 : decode cX9_powered 69 = .ok (.invokevirtual 127, 3) := by decide +kernel
theorem dX9_powered_72 : decode cX9_powered 72 = .ok (.iinc 2 1, 3) := by decide +kernel
theorem dX9_powered_75 : decode cX9_powered 75 = .ok (.goto (-38), 3) := by decide +kernel
theorem dX9_powered_78 : decode cX9_powered 78 = .ok (.iload_n 1, 1) := by decide +kernel
theorem dX9_powered_79 : decode cX9_powered 79 = .ok (.ireturn, 1) := by decide +kernel
theorem dX9_cool_0 : decode cX9_cool 0 = .ok (.iconst 0, 1) := by decide +kernel
theorem dX9_cool_1 : decode cX9_cool 1 = .ok (.istore_n 1, 1) := by decide +kernel
theorem dX9_cool_2 : decode cX9_cool 2 = .ok (.iload_n 1, 1) := by decide +kernel
theorem dX9_cool_3 : decode cX9_cool 3 = .ok (.aload_n 0, 1) := by decide +kernel
theorem dX9_cool_4 : decode cX9_cool 4 = .ok (.getfield 7, 3) := by decide +kernel
theorem dX9_cool_7 : decode cX9_cool 7 = .ok (.iconst 2, 1) := by decide +kernel
theorem dX9_cool_8 : decode cX9_cool 8 = .ok (.iaload, 1) := by decide +kernel
theorem dX9_cool_9 : decode cX9_cool 9 = .ok (.if_icmp .ge 52, 3) := by decide +kernel
theorem dX9_cool_12 : decode cX9_cool 12 = .ok (.aload_n 0, 1) := by decide +kernel
theorem dX9_cool_13 : decode cX9_cool 13 = .ok (.iload_n 1, 1) := by decide +kernel
theorem dX9_cool_14 : decode cX9_cool 14 = .ok (.invokevirtual 68, 3) := by decide +kernel
theorem dX9_cool_17 : decode cX9_cool 17 = .ok (.bipush 15, 2) := by decide +kernel
theorem dX9_cool_19 : decode cX9_cool 19 = .ok (.isub, 1) := by decide +kernel
theorem dX9_cool_20 : decode cX9_cool 20 = .ok (.istore_n 2, 1) := by decide +kernel
theorem dX9_cool_21 : decode cX9_cool 21 = .ok (.aload_n 0, 1) := by decide +kernel
theorem dX9_cool_22 : decode cX9_cool 22 = .ok (.iload_n 1, 1) := by decide +kernel
theorem dX9_cool_23 : decode cX9_cool 23 = .ok (.bipush 11, 2) := by decide +kernel
theorem dX9_cool_25 : decode cX9_cool 25 = .ok (.invokevirtual 49, 3) := by decide +kernel
theorem dX9_cool_28 : decode cX9_cool 28 = .ok (.ifCond .le 27, 3) := by decide +kernel
theorem dX9_cool_31 : decode cX9_cool 31 = .ok (.iload_n 2, 1) := by decide +kernel
theorem dX9_cool_32 : decode cX9_cool 32 = .ok (.ifCond .le 23, 3) := by decide +kernel
theorem dX9_cool_35 : decode cX9_cool 35 = .ok (.aload_n 0, 1) := by decide +kernel
theorem dX9_cool_36 : decode cX9_cool 36 = .ok (.iload_n 1, 1) := by decide +kernel
theorem dX9_cool_37 : decode cX9_cool 37 = .ok (.bipush 12, 2) := by decide +kernel
theorem dX9_cool_39 : decode cX9_cool 39 = .ok (.iload_n 2, 1) := by decide +kernel
theorem dX9_cool_40 : decode cX9_cool 40 = .ok (.aload_n 0, 1) := by decide +kernel
theorem dX9_cool_41 : decode cX9_cool 41 = .ok (.iload_n 1, 1) := by decide +kernel
theorem dX9_cool_42 : decode cX9_cool 42 = .ok (.bipush 11, 2) := by decide +kernel
theorem dX9_cool_44 : decode cX9_cool 44 = .ok (.invokevirtual 49, 3) := by decide +kernel
theorem dX9_cool_47 : decode cX9_cool 47 = .ok (.imul, 1) := by decide +kernel
theorem dX9_cool_48 : decode cX9_cool 48 = .ok (.bipush 30, 2) := by decide +kernel
theorem dX9_cool_50 : decode cX9_cool 50 = .ok (.idiv, 1) := by decide +kernel
theorem dX9_cool_51 : decode cX9_cool 51 = .ok (.ineg, 1) := by decide +kernel
theorem dX9_cool_52 : decode cX9_cool 52 = .ok (.invokevirtual 101, 3) := by decide +kernel
theorem dX9_cool_55 : decode cX9_cool 55 = .ok (.iinc 1 1, 3) := by decide +kernel
theorem dX9_cool_58 : decode cX9_cool 58 = .ok (.goto (-56), 3) := by decide +kernel
theorem dX9_cool_61 : decode cX9_cool 61 = .ok (.return_, 1) := by decide +kernel
theorem dX9_unlock_0 : decode cX9_unlock 0 = .ok (.iconst 0, 1) := by decide +kernel
theorem dX9_unlock_1 : decode cX9_unlock 1 = .ok (.istore_n 1, 1) := by decide +kernel
theorem dX9_unlock_2 : decode cX9_unlock 2 = .ok (.iload_n 1, 1) := by decide +kernel
theorem dX9_unlock_3 : decode cX9_unlock 3 = .ok (.aload_n 0, 1) := by decide +kernel
theorem dX9_unlock_4 : decode cX9_unlock 4 = .ok (.getfield 7, 3) := by decide +kernel
theorem dX9_unlock_7 : decode cX9_unlock 7 = .ok (.iconst 2, 1) := by decide +kernel
theorem dX9_unlock_8 : decode cX9_unlock 8 = .ok (.iaload, 1) := by decide +kernel
theorem dX9_unlock_9 : decode cX9_unlock 9 = .ok (.if_icmp .ge 51, 3) := by decide +kernel
theorem dX9_unlock_12 : decode cX9_unlock 12 = .ok (.aload_n 0, 1) := by decide +kernel
theorem dX9_unlock_13 : decode cX9_unlock 13 = .ok (.iload_n 1, 1) := by decide +kernel
theorem dX9_unlock_14 : decode cX9_unlock 14 = .ok (.bipush 13, 2) := by decide +kernel
theorem dX9_unlock_16 : decode cX9_unlock 16 = .ok (.invokevirtual 49, 3) := by decide +kernel
theorem dX9_unlock_19 : decode cX9_unlock 19 = .ok (.iconst 2, 1) := by decide +kernel
theorem dX9_unlock_20 : decode cX9_unlock 20 = .ok (.if_icmp .ne 34, 3) := by decide +kernel
theorem dX9_unlock_23 : decode cX9_unlock 23 = .ok (.aload_n 0, 1) := by decide +kernel
theorem dX9_unlock_24 : decode cX9_unlock 24 = .ok (.iload_n 1, 1) := by decide +kernel
theorem dX9_unlock_25 : decode cX9_unlock 25 = .ok (.invokevirtual 79, 3) := by decide +kernel
theorem dX9_unlock_28 : decode cX9_unlock 28 = .ok (.ifCond .ne 26, 3) := by decide +kernel
theorem dX9_unlock_31 : decode cX9_unlock 31 = .ok (.aload_n 0, 1) := by decide +kernel
theorem dX9_unlock_32 : decode cX9_unlock 32 = .ok (.iload_n 1, 1) := by decide +kernel
theorem dX9_unlock_33 : decode cX9_unlock 33 = .ok (.invokevirtual 68, 3) := by decide +kernel
theorem dX9_unlock_36 : decode cX9_unlock 36 = .ok (.aload_n 0, 1) := by decide +kernel
theorem dX9_unlock_37 : decode cX9_unlock 37 = .ok (.getfield 7, 3) := by decide +kernel
theorem dX9_unlock_40 : decode cX9_unlock 40 = .ok (.bipush 6, 2) := by decide +kernel
theorem dX9_unlock_42 : decode cX9_unlock 42 = .ok (.iaload, 1) := by decide +kernel
theorem dX9_unlock_43 : decode cX9_unlock 43 = .ok (.if_icmp .gt 11, 3) := by decide +kernel
theorem dX9_unlock_46 : decode cX9_unlock 46 = .ok (.aload_n 0, 1) := by decide +kernel
theorem dX9_unlock_47 : decode cX9_unlock 47 = .ok (.iload_n 1, 1) := by decide +kernel
theorem dX9_unlock_48 : decode cX9_unlock 48 = .ok (.bipush 13, 2) := by decide +kernel
theorem dX9_unlock_50 : decode cX9_unlock 50 = .ok (.iconst 1, 1) := by decide +kernel
theorem dX9_unlock_51 : decode cX9_unlock 51 = .ok (.invokevirtual 63, 3) := by decide +kernel
theorem dX9_unlock_54 : decode cX9_unlock 54 = .ok (.iinc 1 1, 3) := by decide +kernel
theorem dX9_unlock_57 : decode cX9_unlock 57 = .ok (.goto (-55), 3) := by decide +kernel
theorem dX9_unlock_60 : decode cX9_unlock 60 = .ok (.return_, 1) := by decide +kernel
theorem dX9_endLeases_0 : decode cX9_endLeases 0 = .ok (.iconst 0, 1) := by decide +kernel
theorem dX9_endLeases_1 : decode cX9_endLeases 1 = .ok (.istore_n 1, 1) := by decide +kernel
theorem dX9_endLeases_2 : decode cX9_endLeases 2 = .ok (.iconst 0, 1) := by decide +kernel
theorem dX9_endLeases_3 : decode cX9_endLeases 3 = .ok (.istore_n 2, 1) := by decide +kernel
theorem dX9_endLeases_4 : decode cX9_endLeases 4 = .ok (.iload_n 2, 1) := by decide +kernel
theorem dX9_endLeases_5 : decode cX9_endLeases 5 = .ok (.aload_n 0, 1) := by decide +kernel
theorem dX9_endLeases_6 : decode cX9_endLeases 6 = .ok (.getfield 7, 3) := by decide +kernel
theorem dX9_endLeases_9 : decode cX9_endLeases 9 = .ok (.bipush 8, 2) := by decide +kernel
theorem dX9_endLeases_11 : decode cX9_endLeases 11 = .ok (.iaload, 1) := by decide +kernel
theorem dX9_endLeases_12 : decode cX9_endLeases 12 = .ok (.if_icmp .ge 72, 3) := by decide +kernel
theorem dX9_endLeases_15 : decode cX9_endLeases 15 = .ok (.aload_n 0, 1) := by decide +kernel
theorem dX9_endLeases_16 : decode cX9_endLeases 16 = .ok (.getfield 7, 3) := by decide +kernel
theorem dX9_endLeases_19 : decode cX9_endLeases 19 = .ok (.sipush 351, 3) := by decide +kernel
theorem dX9_endLeases_22 : decode cX9_endLeases 22 = .ok (.iconst 5, 1) := by decide +kernel
theorem dX9_endLeases_23 : decode cX9_endLeases 23 = .ok (.iload_n 2, 1) := by decide +kernel
theorem dX9_endLeases_24 : decode cX9_endLeases 24 = .ok (.imul, 1) := by decide +kernel
theorem dX9_endLeases_25 : decode cX9_endLeases 25 = .ok (.iadd, 1) := by decide +kernel
theorem dX9_endLeases_26 : decode cX9_endLeases 26 = .ok (.iconst 3, 1) := by decide +kernel
theorem dX9_endLeases_27 : decode cX9_endLeases 27 = .ok (.iadd, 1) := by decide +kernel
theorem dX9_endLeases_28 : decode cX9_endLeases 28 = .ok (.dup2, 1) := by decide +kernel
theorem dX9_endLeases_29 : decode cX9_endLeases 29 = .ok (.iaload, 1) := by decide +kernel
theorem dX9_endLeases_30 : decode cX9_endLeases 30 = .ok (.iconst 1, 1) := by decide +kernel
theorem dX9_endLeases_31 : decode cX9_endLeases 31 = .ok (.isub, 1) := by decide +kernel
theorem dX9_endLeases_32 : decode cX9_endLeases 32 = .ok (.iastore, 1) := by decide +kernel
theorem dX9_endLeases_33 : decode cX9_endLeases 33 = .ok (.aload_n 0, 1) := by decide +kernel
theorem dX9_endLeases_34 : decode cX9_endLeases 34 = .ok (.iload_n 2, 1) := by decide +kernel
theorem dX9_endLeases_35 : decode cX9_endLeases 35 = .ok (.iconst 3, 1) := by decide +kernel
theorem dX9_endLeases_36 : decode cX9_endLeases 36 = .ok (.invokevirtual 53, 3) := by decide +kernel
theorem dX9_endLeases_39 : decode cX9_endLeases 39 = .ok (.ifCond .le 39, 3) := by decide +kernel
theorem dX9_endLeases_42 : decode cX9_endLeases 42 = .ok (.iconst 0, 1) := by decide +kernel
theorem dX9_endLeases_43 : decode cX9_endLeases 43 = .ok (.istore_n 3, 1) := by decide +kernel
theorem dX9_endLeases_44 : decode cX9_endLeases 44 = .ok (.iload_n 3, 1) := by decide +kernel
theorem dX9_endLeases_45 : decode cX9_endLeases 45 = .ok (.iconst 5, 1) := by decide +kernel
theorem dX9_endLeases_46 : decode cX9_endLeases 46 = .ok (.if_icmp .ge 29, 3) := by decide +kernel
theorem dX9_endLeases_49 : decode cX9_endLeases 49 = .ok (.aload_n 0, 1) := by decide +kernel
theorem dX9_endLeases_50 : decode cX9_endLeases 50 = .ok (.getfield 7, 3) := by decide +kernel
theorem dX9_endLeases_53 : decode cX9_endLeases 53 = .ok (.sipush 351, 3) := by decide +kernel
theorem dX9_endLeases_56 : decode cX9_endLeases 56 = .ok (.iconst 5, 1) := by decide +kernel
theorem dX9_endLeases_57 : decode cX9_endLeases 57 = .ok (.iload_n 1, 1) := by decide +kernel
theorem dX9_endLeases_58 : decode cX9_endLeases 58 = .ok (.imul, 1) := by decide +kernel
theorem dX9_endLeases_59 : decode cX9_endLeases 59 = .ok (.iadd, 1) := by decide +kernel
theorem dX9_endLeases_60 : decode cX9_endLeases 60 = .ok (.iload_n 3, 1) := by decide +kernel
theorem dX9_endLeases_61 : decode cX9_endLeases 61 = .ok (.iadd, 1) := by decide +kernel
theorem dX9_endLeases_62 : decode cX9_endLeases 62 = .ok (.aload_n 0, 1) := by decide +kernel
theorem dX9_endLeases_63 : decode cX9_endLeases 63 = .ok (.iload_n 2, 1) := by decide +kernel
theorem dX9_endLeases_64 : decode cX9_endLeases 64 = .ok (.iload_n 3, 1) := by decide +kernel
theorem dX9_endLeases_65 : decode cX9_endLeases 65 = .ok (.invokevirtual 53, 3) := by decide +kernel
theorem dX9_endLeases_68 : decode cX9_endLeases 68 = .ok (.iastore, 1) := by decide +kernel
theorem dX9_endLeases_69 : decode cX9_endLeases 69 = .ok (.iinc 3 1, 3) := by decide +kernel
theorem dX9_endLeases_72 : decode cX9_endLeases 72 = .ok (.goto (-28), 3) := by decide +kernel
theorem dX9_endLeases_75 : decode cX9_endLeases 75 = .ok (.iinc 1 1, 3) := by decide +kernel
theorem dX9_endLeases_78 : decode cX9_endLeases 78 = .ok (.iinc 2 1, 3) := by decide +kernel
theorem dX9_endLeases_81 : decode cX9_endLeases 81 = .ok (.goto (-77), 3) := by decide +kernel
theorem dX9_endLeases_84 : decode cX9_endLeases 84 = .ok (.aload_n 0, 1) := by decide +kernel
theorem dX9_endLeases_85 : decode cX9_endLeases 85 = .ok (.getfield 7, 3) := by decide +kernel
theorem dX9_endLeases_88 : decode cX9_endLeases 88 = .ok (.bipush 8, 2) := by decide +kernel
theorem dX9_endLeases_90 : decode cX9_endLeases 90 = .ok (.iload_n 1, 1) := by decide +kernel
theorem dX9_endLeases_91 : decode cX9_endLeases 91 = .ok (.iastore, 1) := by decide +kernel
theorem dX9_endLeases_92 : decode cX9_endLeases 92 = .ok (.return_, 1) := by decide +kernel
theorem dX9_minute_0 : decode cX9_minute 0 = .ok (.aload_n 0, 1) := by decide +kernel
theorem dX9_minute_1 : decode cX9_minute 1 = .ok (.getfield 7, 3) := by decide +kernel
theorem dX9_minute_4 : decode cX9_minute 4 = .ok (.iconst 1, 1) := by decide +kernel
theorem dX9_minute_5 : decode cX9_minute 5 = .ok (.iaload, 1) := by decide +kernel
theorem dX9_minute_6 : decode cX9_minute 6 = .ok (.iconst 1, 1) := by decide +kernel
theorem dX9_minute_7 : decode cX9_minute 7 = .ok (.if_icmp .ne 7, 3) := by decide +kernel
theorem dX9_minute_10 : decode cX9_minute 10 = .ok (.iconst 1, 1) := by decide +kernel
theorem dX9_minute_11 : decode cX9_minute 11 = .ok (.goto 4, 3) := by decide +kernel
theorem dX9_minute_14 : decode cX9_minute 14 = .ok (.iconst 0, 1) := by decide +kernel
theorem dX9_minute_15 : decode cX9_minute 15 = .ok (.istore_n 1, 1) := by decide +kernel
theorem dX9_minute_16 : decode cX9_minute 16 = .ok (.iload_n 1, 1) := by decide +kernel
theorem dX9_minute_17 : decode cX9_minute 17 = .ok (.ifCond .eq 10, 3) := by decide +kernel
theorem dX9_minute_20 : decode cX9_minute 20 = .ok (.aload_n 0, 1) := by decide +kernel
theorem dX9_minute_21 : decode cX9_minute 21 = .ok (.invokevirtual 130, 3) := by decide +kernel
theorem dX9_minute_24 : decode cX9_minute 24 = .ok (.goto 4, 3) := by decide +kernel
theorem dX9_minute_27 : decode cX9_minute 27 = .ok (.iconst 0, 1) := by decide +kernel
theorem dX9_minute_28 : decode cX9_minute 28 = .ok (.istore_n 2, 1) := by decide +kernel
theorem dX9_minute_29 : decode cX9_minute 29 = .ok (.aload_n 0, 1) := by decide +kernel
theorem dX9_minute_30 : decode cX9_minute 30 = .ok (.invokevirtual 133, 3) := by decide +kernel
theorem dX9_minute_33 : decode cX9_minute 33 = .ok (.iload_n 1, 1) := by decide +kernel
theorem dX9_minute_34 : decode cX9_minute 34 = .ok (.ifCond .eq 7, 3) := by decide +kernel
theorem dX9_minute_37 : decode cX9_minute 37 = .ok (.aload_n 0, 1) := by decide +kernel
theorem dX9_minute_38 : decode cX9_minute 38 = .ok (.invokevirtual 136, 3) := by decide +kernel
theorem dX9_minute_41 : decode cX9_minute 41 = .ok (.aload_n 0, 1) := by decide +kernel
theorem dX9_minute_42 : decode cX9_minute 42 = .ok (.getfield 7, 3) := by decide +kernel
theorem dX9_minute_45 : decode cX9_minute 45 = .ok (.bipush 11, 2) := by decide +kernel
theorem dX9_minute_47 : decode cX9_minute 47 = .ok (.dup2, 1) := by decide +kernel
theorem dX9_minute_48 : decode cX9_minute 48 = .ok (.iaload, 1) := by decide +kernel
theorem dX9_minute_49 : decode cX9_minute 49 = .ok (.iload_n 1, 1) := by decide +kernel
theorem dX9_minute_50 : decode cX9_minute 50 = .ok (.ifCond .eq 7, 3) := by decide +kernel
theorem dX9_minute_53 : decode cX9_minute 53 = .ok (.iconst 0, 1) := by decide +kernel
theorem dX9_minute_54 : decode cX9_minute 54 = .ok (.goto 4, 3) := by decide +kernel
theorem dX9_minute_57 : decode cX9_minute 57 = .ok (.iconst 1, 1) := by decide +kernel
theorem dX9_minute_58 : decode cX9_minute 58 = .ok (.iadd, 1) := by decide +kernel
theorem dX9_minute_59 : decode cX9_minute 59 = .ok (.iastore, 1) := by decide +kernel
theorem dX9_minute_60 : decode cX9_minute 60 = .ok (.aload_n 0, 1) := by decide +kernel
theorem dX9_minute_61 : decode cX9_minute 61 = .ok (.invokevirtual 139, 3) := by decide +kernel
theorem dX9_minute_64 : decode cX9_minute 64 = .ok (.aload_n 0, 1) := by decide +kernel
theorem dX9_minute_65 : decode cX9_minute 65 = .ok (.getfield 7, 3) := by decide +kernel
theorem dX9_minute_68 : decode cX9_minute 68 = .ok (.iconst 0, 1) := by decide +kernel
theorem dX9_minute_69 : decode cX9_minute 69 = .ok (.dup2, 1) := by decide +kernel
theorem dX9_minute_70 : decode cX9_minute 70 = .ok (.iaload, 1) := by decide +kernel
theorem dX9_minute_71 : decode cX9_minute 71 = .ok (.iconst 1, 1) := by decide +kernel
theorem dX9_minute_72 : decode cX9_minute 72 = .ok (.iadd, 1) := by decide +kernel
theorem dX9_minute_73 : decode cX9_minute 73 = .ok (.iastore, 1) := by decide +kernel
theorem dX9_minute_74 : decode cX9_minute 74 = .ok (.iload_n 2, 1) := by decide +kernel
theorem dX9_minute_75 : decode cX9_minute 75 = .ok (.ireturn, 1) := by decide +kernel
theorem dX9_pass_0 : decode cX9_pass 0 = .ok (.iload_n 1, 1) := by decide +kernel
theorem dX9_pass_1 : decode cX9_pass 1 = .ok (.iconst 1, 1) := by decide +kernel
theorem dX9_pass_2 : decode cX9_pass 2 = .ok (.bipush 60, 2) := by decide +kernel
theorem dX9_pass_4 : decode cX9_pass 4 = .ok (.invokestatic 45, 3) := by decide +kernel
theorem dX9_pass_7 : decode cX9_pass 7 = .ok (.ifCond .ne 6, 3) := by decide +kernel
theorem dX9_pass_10 : decode cX9_pass 10 = .ok (.bipush (-2), 2) := by decide +kernel
theorem dX9_pass_12 : decode cX9_pass 12 = .ok (.ireturn, 1) := by decide +kernel
theorem dX9_pass_13 : decode cX9_pass 13 = .ok (.aload_n 0, 1) := by decide +kernel
theorem dX9_pass_14 : decode cX9_pass 14 = .ok (.invokevirtual 60, 3) := by decide +kernel
theorem dX9_pass_17 : decode cX9_pass 17 = .ok (.iconst 0, 1) := by decide +kernel
theorem dX9_pass_18 : decode cX9_pass 18 = .ok (.istore_n 2, 1) := by decide +kernel
theorem dX9_pass_19 : decode cX9_pass 19 = .ok (.iconst 0, 1) := by decide +kernel
theorem dX9_pass_20 : decode cX9_pass 20 = .ok (.istore_n 3, 1) := by decide +kernel
theorem dX9_pass_21 : decode cX9_pass 21 = .ok (.iload_n 3, 1) := by decide +kernel
theorem dX9_pass_22 : decode cX9_pass 22 = .ok (.iload_n 1, 1) := by decide +kernel
theorem dX9_pass_23 : decode cX9_pass 23 = .ok (.if_icmp .ge 16, 3) := by decide +kernel
theorem dX9_pass_26 : decode cX9_pass 26 = .ok (.iload_n 2, 1) := by decide +kernel
theorem dX9_pass_27 : decode cX9_pass 27 = .ok (.aload_n 0, 1) := by decide +kernel
theorem dX9_pass_28 : decode cX9_pass 28 = .ok (.invokevirtual 142, 3) := by decide +kernel
theorem dX9_pass_31 : decode cX9_pass 31 = .ok (.iadd, 1) := by decide +kernel
theorem dX9_pass_32 : decode cX9_pass 32 = .ok (.istore_n 2, 1) := by decide +kernel
theorem dX9_pass_33 : decode cX9_pass 33 = .ok (.iinc 3 1, 3) := by decide +kernel
theorem dX9_pass_36 : decode cX9_pass 36 = .ok (.goto (-15), 3) := by decide +kernel
theorem dX9_pass_39 : decode cX9_pass 39 = .ok (.iload_n 2, 1) := by decide +kernel
theorem dX9_pass_40 : decode cX9_pass 40 = .ok (.ireturn, 1) := by decide +kernel
theorem dX9_type_0 : decode cX9_type 0 = .ok (.aload_n 0, 1) := by decide +kernel
theorem dX9_type_1 : decode cX9_type 1 = .ok (.getfield 145, 3) := by decide +kernel
theorem dX9_type_4 : decode cX9_type 4 = .ok (.bipush 60, 2) := by decide +kernel
theorem dX9_type_6 : decode cX9_type 6 = .ok (.if_icmp .ne 6, 3) := by decide +kernel
theorem dX9_type_9 : decode cX9_type 9 = .ok (.bipush (-3), 2) := by decide +kernel
theorem dX9_type_11 : decode cX9_type 11 = .ok (.ireturn, 1) := by decide +kernel
theorem dX9_type_12 : decode cX9_type 12 = .ok (.aload_n 0, 1) := by decide +kernel
theorem dX9_type_13 : decode cX9_type 13 = .ok (.getfield 22, 3) := by decide +kernel
theorem dX9_type_16 : decode cX9_type 16 = .ok (.aload_n 0, 1) := by decide +kernel
theorem dX9_type_17 : decode cX9_type 17 = .ok (.getfield 145, 3) := by decide +kernel
theorem dX9_type_20 : decode cX9_type 20 = .ok (.iload_n 1, 1) := by decide +kernel
theorem dX9_type_21 : decode cX9_type 21 = .ok (.iastore, 1) := by decide +kernel
theorem dX9_type_22 : decode cX9_type 22 = .ok (.aload_n 0, 1) := by decide +kernel
theorem dX9_type_23 : decode cX9_type 23 = .ok (.dup, 1) := by decide +kernel
theorem dX9_type_24 : decode cX9_type 24 = .ok (.getfield 145, 3) := by decide +kernel
theorem dX9_type_27 : decode cX9_type 27 = .ok (.iconst 1, 1) := by decide +kernel
theorem dX9_type_28 : decode cX9_type 28 = .ok (.iadd, 1) := by decide +kernel
theorem dX9_type_29 : decode cX9_type 29 = .ok (.putfield 145, 3) := by decide +kernel
theorem dX9_type_32 : decode cX9_type 32 = .ok (.aload_n 0, 1) := by decide +kernel
theorem dX9_type_33 : decode cX9_type 33 = .ok (.getfield 145, 3) := by decide +kernel
theorem dX9_type_36 : decode cX9_type 36 = .ok (.ireturn, 1) := by decide +kernel
theorem dX9_clearText_0 : decode cX9_clearText 0 = .ok (.aload_n 0, 1) := by decide +kernel
theorem dX9_clearText_1 : decode cX9_clearText 1 = .ok (.getfield 145, 3) := by decide +kernel
theorem dX9_clearText_4 : decode cX9_clearText 4 = .ok (.istore_n 1, 1) := by decide +kernel
theorem dX9_clearText_5 : decode cX9_clearText 5 = .ok (.aload_n 0, 1) := by decide +kernel
theorem dX9_clearText_6 : decode cX9_clearText 6 = .ok (.iconst 0, 1) := by decide +kernel
theorem dX9_clearText_7 : decode cX9_clearText 7 = .ok (.putfield 145, 3) := by decide +kernel
theorem dX9_clearText_10 : decode cX9_clearText 10 = .ok (.iload_n 1, 1) := by decide +kernel
theorem dX9_clearText_11 : decode cX9_clearText 11 = .ok (.ireturn, 1) := by decide +kernel
theorem dX9_character_0 : decode cX9_character 0 = .ok (.iload_n 1, 1) := by decide +kernel
theorem dX9_character_1 : decode cX9_character 1 = .ok (.aload_n 0, 1) := by decide +kernel
theorem dX9_character_2 : decode cX9_character 2 = .ok (.getfield 145, 3) := by decide +kernel
theorem dX9_character_5 : decode cX9_character 5 = .ok (.if_icmp .ge 12, 3) := by decide +kernel
theorem dX9_character_8 : decode cX9_character 8 = .ok (.aload_n 0, 1) := by decide +kernel
theorem dX9_character_9 : decode cX9_character 9 = .ok (.getfield 22, 3) := by decide +kernel
theorem dX9_character_12 : decode cX9_character 12 = .ok (.iload_n 1, 1) := by decide +kernel
theorem dX9_character_13 : decode cX9_character 13 = .ok (.iaload, 1) := by decide +kernel
theorem dX9_character_14 : decode cX9_character 14 = .ok (.goto 4, 3) := by decide +kernel
theorem dX9_character_17 : decode cX9_character 17 = .ok (.iconst (-1), 1) := by decide +kernel
theorem dX9_character_18 : decode cX9_character 18 = .ok (.ireturn, 1) := by decide +kernel
theorem dX9_readText_0 : decode cX9_readText 0 = .ok (.iconst 0, 1) := by decide +kernel
theorem dX9_readText_1 : decode cX9_readText 1 = .ok (.istore_n 1, 1) := by decide +kernel
theorem dX9_readText_2 : decode cX9_readText 2 = .ok (.aload_n 0, 1) := by decide +kernel
theorem dX9_readText_3 : decode cX9_readText 3 = .ok (.iconst 0, 1) := by decide +kernel
theorem dX9_readText_4 : decode cX9_readText 4 = .ok (.putfield 148, 3) := by decide +kernel
theorem dX9_readText_7 : decode cX9_readText 7 = .ok (.iconst 0, 1) := by decide +kernel
theorem dX9_readText_8 : decode cX9_readText 8 = .ok (.istore_n 2, 1) := by decide +kernel
theorem dX9_readText_9 : decode cX9_readText 9 = .ok (.iload_n 2, 1) := by decide +kernel
theorem dX9_readText_10 : decode cX9_readText 10 = .ok (.bipush 60, 2) := by decide +kernel
theorem dX9_readText_12 : decode cX9_readText 12 = .ok (.if_icmp .gt 180, 3) := by decide +kernel
theorem dX9_readText_15 : decode cX9_readText 15 = .ok (.aload_n 0, 1) := by decide +kernel
theorem dX9_readText_16 : decode cX9_readText 16 = .ok (.iload_n 1, 1) := by decide +kernel
theorem dX9_readText_17 : decode cX9_readText 17 = .ok (.invokevirtual 151, 3) := by decide +kernel
theorem dX9_readText_20 : decode cX9_readText 20 = .ok (.istore_n 3, 1) := by decide +kernel
theorem dX9_readText_21 : decode cX9_readText 21 = .ok (.iload_n 3, 1) := by decide +kernel
theorem dX9_readText_22 : decode cX9_readText 22 = .ok (.bipush 102, 2) := by decide +kernel
theorem dX9_readText_24 : decode cX9_readText 24 = .ok (.if_icmp .eq 29, 3) := by decide +kernel
theorem dX9_readText_27 : decode cX9_readText 27 = .ok (.iload_n 3, 1) := by decide +kernel
theorem dX9_readText_28 : decode cX9_readText 28 = .ok (.bipush 104, 2) := by decide +kernel
theorem dX9_readText_30 : decode cX9_readText 30 = .ok (.if_icmp .eq 23, 3) := by decide +kernel
theorem dX9_readText_33 : decode cX9_readText 33 = .ok (.iload_n 3, 1) := by decide +kernel
theorem dX9_readText_34 : decode cX9_readText 34 = .ok (.bipush 119, 2) := by decide +kernel
theorem dX9_readText_36 : decode cX9_readText 36 = .ok (.if_icmp .eq 17, 3) := by decide +kernel
theorem dX9_readText_39 : decode cX9_readText 39 = .ok (.iload_n 3, 1) := by decide +kernel
theorem dX9_readText_40 : decode cX9_readText 40 = .ok (.bipush 100, 2) := by decide +kernel
theorem dX9_readText_42 : decode cX9_readText 42 = .ok (.if_icmp .eq 11, 3) := by decide +kernel
theorem dX9_readText_45 : decode cX9_readText 45 = .ok (.iload_n 3, 1) := by decide +kernel
theorem dX9_readText_46 : decode cX9_readText 46 = .ok (.bipush 115, 2) := by decide +kernel
theorem dX9_readText_48 : decode cX9_readText 48 = .ok (.if_icmp .eq 5, 3) := by decide +kernel
theorem dX9_readText_51 : decode cX9_readText 51 = .ok (.iload_n 1, 1) := by decide +kernel
theorem dX9_readText_52 : decode cX9_readText 52 = .ok (.ireturn, 1) := by decide +kernel
theorem dX9_readText_53 : decode cX9_readText 53 = .ok (.iinc 1 1, 3) := by decide +kernel
theorem dX9_readText_56 : decode cX9_readText 56 = .ok (.iconst 0, 1) := by decide +kernel
theorem dX9_readText_57 : decode cX9_readText 57 = .ok (.istore 4, 2) := by decide +kernel
theorem dX9_readText_59 : decode cX9_readText 59 = .ok (.iload_n 3, 1) := by decide +kernel
theorem dX9_readText_60 : decode cX9_readText 60 = .ok (.bipush 100, 2) := by decide +kernel
theorem dX9_readText_62 : decode cX9_readText 62 = .ok (.if_icmp .eq 67, 3) := by decide +kernel
theorem dX9_readText_65 : decode cX9_readText 65 = .ok (.aload_n 0, 1) := by decide +kernel
theorem dX9_readText_66 : decode cX9_readText 66 = .ok (.iload_n 1, 1) := by decide +kernel
theorem dX9_readText_67 : decode cX9_readText 67 = .ok (.invokevirtual 151, 3) := by decide +kernel
theorem dX9_readText_70 : decode cX9_readText 70 = .ok (.bipush 49, 2) := by decide +kernel
theorem dX9_readText_72 : decode cX9_readText 72 = .ok (.bipush 57, 2) := by decide +kernel
theorem dX9_readText_74 : decode cX9_readText 74 = .ok (.invokestatic 45, 3) := by decide +kernel
theorem dX9_readText_77 : decode cX9_readText 77 = .ok (.ifCond .ne 5, 3) := by decide +kernel
theorem dX9_readText_80 : decode cX9_readText 80 = .ok (.iload_n 1, 1) := by decide +kernel
theorem dX9_readText_81 : decode cX9_readText 81 = .ok (.ireturn, 1) := by decide +kernel
theorem dX9_readText_82 : decode cX9_readText 82 = .ok (.aload_n 0, 1) := by decide +kernel
theorem dX9_readText_83 : decode cX9_readText 83 = .ok (.iload_n 1, 1) := by decide +kernel
theorem dX9_readText_84 : decode cX9_readText 84 = .ok (.invokevirtual 151, 3) := by decide +kernel
theorem dX9_readText_87 : decode cX9_readText 87 = .ok (.bipush 48, 2) := by decide +kernel
theorem dX9_readText_89 : decode cX9_readText 89 = .ok (.isub, 1) := by decide +kernel
theorem dX9_readText_90 : decode cX9_readText 90 = .ok (.istore 4, 2) := by decide +kernel
theorem dX9_readText_92 : decode cX9_readText 92 = .ok (.iinc 1 1, 3) := by decide +kernel
theorem dX9_readText_95 : decode cX9_readText 95 = .ok (.aload_n 0, 1) := by decide +kernel
theorem dX9_readText_96 : decode cX9_readText 96 = .ok (.iload_n 1, 1) := by decide +kernel
theorem dX9_readText_97 : decode cX9_readText 97 = .ok (.invokevirtual 151, 3) := by decide +kernel
theorem dX9_readText_100 : decode cX9_readText 100 = .ok (.bipush 48, 2) := by decide +kernel
theorem dX9_readText_102 : decode cX9_readText 102 = .ok (.bipush 57, 2) := by decide +kernel
theorem dX9_readText_104 : decode cX9_readText 104 = .ok (.invokestatic 45, 3) := by decide +kernel
theorem dX9_readText_107 : decode cX9_readText 107 = .ok (.ifCond .eq 22, 3) := by decide +kernel
theorem dX9_readText_110 : decode cX9_readText 110 = .ok (.bipush 10, 2) := by decide +kernel
theorem dX9_readText_112 : decode cX9_readText 112 = .ok (.iload 4, 2) := by decide +kernel
theorem dX9_readText_114 : decode cX9_readText 114 = .ok (.imul, 1) := by decide +kernel
theorem dX9_readText_115 : decode cX9_readText 115 = .ok (.aload_n 0, 1) := by decide +kernel
theorem dX9_readText_116 : decode cX9_readText 116 = .ok (.iload_n 1, 1) := by decide +kernel
theorem dX9_readText_117 : decode cX9_readText 117 = .ok (.invokevirtual 151, 3) := by decide +kernel
theorem dX9_readText_120 : decode cX9_readText 120 = .ok (.iadd, 1) := by decide +kernel
theorem dX9_readText_121 : decode cX9_readText 121 = .ok (.bipush 48, 2) := by decide +kernel
theorem dX9_readText_123 : decode cX9_readText 123 = .ok (.isub, 1) := by decide +kernel
theorem dX9_readText_124 : decode cX9_readText 124 = .ok (.istore 4, 2) := by decide +kernel
theorem dX9_readText_126 : decode cX9_readText 126 = .ok (.iinc 1 1, 3) := by decide +kernel
theorem dX9_readText_129 : decode cX9_readText 129 = .ok (.aload_n 0, 1) := by decide +kernel
theorem dX9_readText_130 : decode cX9_readText 130 = .ok (.getfield 31, 3) := by decide +kernel
theorem dX9_readText_133 : decode cX9_readText 133 = .ok (.aload_n 0, 1) := by decide +kernel
theorem dX9_readText_134 : decode cX9_readText 134 = .ok (.getfield 148, 3) := by decide +kernel
theorem dX9_readText_137 : decode cX9_readText 137 = .ok (.iload_n 3, 1) := by decide +kernel
theorem dX9_readText_138 : decode cX9_readText 138 = .ok (.iastore, 1) := by decide +kernel
theorem dX9_readText_139 : decode cX9_readText 139 = .ok (.aload_n 0, 1) := by decide +kernel
theorem dX9_readText_140 : decode cX9_readText 140 = .ok (.getfield 34, 3) := by decide +kernel
theorem dX9_readText_143 : decode cX9_readText 143 = .ok (.aload_n 0, 1) := by decide +kernel
theorem dX9_readText_144 : decode cX9_readText 144 = .ok (.getfield 148, 3) := by decide +kernel
theorem dX9_readText_147 : decode cX9_readText 147 = .ok (.iload 4, 2) := by decide +kernel
theorem dX9_readText_149 : decode cX9_readText 149 = .ok (.iastore, 1) := by decide +kernel
theorem dX9_readText_150 : decode cX9_readText 150 = .ok (.aload_n 0, 1) := by decide +kernel
theorem dX9_readText_151 : decode cX9_readText 151 = .ok (.dup, 1) := by decide +kernel
theorem dX9_readText_152 : decode cX9_readText 152 = .ok (.getfield 148, 3) := by decide +kernel
theorem dX9_readText_155 : decode cX9_readText 155 = .ok (.iconst 1, 1) := by decide +kernel
theorem dX9_readText_156 : decode cX9_readText 156 = .ok (.iadd, 1) := by decide +kernel
theorem dX9_readText_157 : decode cX9_readText 157 = .ok (.putfield 148, 3) := by decide +kernel
theorem dX9_readText_160 : decode cX9_readText 160 = .ok (.iload_n 1, 1) := by decide +kernel
theorem dX9_readText_161 : decode cX9_readText 161 = .ok (.aload_n 0, 1) := by decide +kernel
theorem dX9_readText_162 : decode cX9_readText 162 = .ok (.getfield 145, 3) := by decide +kernel
theorem dX9_readText_165 : decode cX9_readText 165 = .ok (.if_icmp .ne 6, 3) := by decide +kernel
theorem dX9_readText_168 : decode cX9_readText 168 = .ok (.bipush (-5), 2) := by decide +kernel
theorem dX9_readText_170 : decode cX9_readText 170 = .ok (.ireturn, 1) := by decide +kernel
theorem dX9_readText_171 : decode cX9_readText 171 = .ok (.aload_n 0, 1) := by decide +kernel
theorem dX9_readText_172 : decode cX9_readText 172 = .ok (.iload_n 1, 1) := by decide +kernel
theorem dX9_readText_173 : decode cX9_readText 173 = .ok (.invokevirtual 151, 3) := by decide +kernel
theorem dX9_readText_176 : decode cX9_readText 176 = .ok (.bipush 59, 2) := by decide +kernel
theorem dX9_readText_178 : decode cX9_readText 178 = .ok (.if_icmp .eq 5, 3) := by decide +kernel
theorem dX9_readText_181 : decode cX9_readText 181 = .ok (.iload_n 1, 1) := by decide +kernel
theorem dX9_readText_182 : decode cX9_readText 182 = .ok (.ireturn, 1) := by decide +kernel
theorem dX9_readText_183 : decode cX9_readText 183 = .ok (.iinc 1 1, 3) := by decide +kernel
theorem dX9_readText_186 : decode cX9_readText 186 = .ok (.iinc 2 1, 3) := by decide +kernel
theorem dX9_readText_189 : decode cX9_readText 189 = .ok (.goto (-180), 3) := by decide +kernel
theorem dX9_readText_192 : decode cX9_readText 192 = .ok (.iload_n 1, 1) := by decide +kernel
theorem dX9_readText_193 : decode cX9_readText 193 = .ok (.ireturn, 1) := by decide +kernel
theorem dX9_isInRange_0 : decode cX9_isInRange 0 = .ok (.aload_n 0, 1) := by decide +kernel
theorem dX9_isInRange_1 : decode cX9_isInRange 1 = .ok (.getfield 34, 3) := by decide +kernel
theorem dX9_isInRange_4 : decode cX9_isInRange 4 = .ok (.iload_n 1, 1) := by decide +kernel
theorem dX9_isInRange_5 : decode cX9_isInRange 5 = .ok (.iaload, 1) := by decide +kernel
theorem dX9_isInRange_6 : decode cX9_isInRange 6 = .ok (.istore_n 2, 1) := by decide +kernel
theorem dX9_isInRange_7 : decode cX9_isInRange 7 = .ok (.aload_n 0, 1) := by decide +kernel
theorem dX9_isInRange_8 : decode cX9_isInRange 8 = .ok (.getfield 31, 3) := by decide +kernel
theorem dX9_isInRange_11 : decode cX9_isInRange 11 = .ok (.iload_n 1, 1) := by decide +kernel
theorem dX9_isInRange_12 : decode cX9_isInRange 12 = .ok (.iaload, 1) := by decide +kernel
theorem dX9_isInRange_13 : decode cX9_isInRange 13 = .ok (.lookupswitch 68 #[(102, 35), (104, 47), (115, 56)], 35) := by decide +kernel
theorem dX9_isInRange_48 : decode cX9_isInRange 48 = .ok (.iload_n 2, 1) := by decide +kernel
theorem dX9_isInRange_49 : decode cX9_isInRange 49 = .ok (.bipush 60, 2) := by decide +kernel
theorem dX9_isInRange_51 : decode cX9_isInRange 51 = .ok (.if_icmp .gt 7, 3) := by decide +kernel
theorem dX9_isInRange_54 : decode cX9_isInRange 54 = .ok (.iconst 1, 1) := by decide +kernel
theorem dX9_isInRange_55 : decode cX9_isInRange 55 = .ok (.goto 4, 3) := by decide +kernel
theorem dX9_isInRange_58 : decode cX9_isInRange 58 = .ok (.iconst 0, 1) := by decide +kernel
theorem dX9_isInRange_59 : decode cX9_isInRange 59 = .ok (.ireturn, 1) := by decide +kernel
theorem dX9_isInRange_60 : decode cX9_isInRange 60 = .ok (.iload_n 2, 1) := by decide +kernel
theorem dX9_isInRange_61 : decode cX9_isInRange 61 = .ok (.bipush 16, 2) := by decide +kernel
theorem dX9_isInRange_63 : decode cX9_isInRange 63 = .ok (.bipush 95, 2) := by decide +kernel
theorem dX9_isInRange_65 : decode cX9_isInRange 65 = .ok (.invokestatic 45, 3) := by decide +kernel
theorem dX9_isInRange_68 : decode cX9_isInRange 68 = .ok (.ireturn, 1) := by decide +kernel
theorem dX9_isInRange_69 : decode cX9_isInRange 69 = .ok (.iload_n 2, 1) := by decide +kernel
theorem dX9_isInRange_70 : decode cX9_isInRange 70 = .ok (.bipush 30, 2) := by decide +kernel
theorem dX9_isInRange_72 : decode cX9_isInRange 72 = .ok (.if_icmp .gt 7, 3) := by decide +kernel
theorem dX9_isInRange_75 : decode cX9_isInRange 75 = .ok (.iconst 1, 1) := by decide +kernel
theorem dX9_isInRange_76 : decode cX9_isInRange 76 = .ok (.goto 4, 3) := by decide +kernel
theorem dX9_isInRange_79 : decode cX9_isInRange 79 = .ok (.iconst 0, 1) := by decide +kernel
theorem dX9_isInRange_80 : decode cX9_isInRange 80 = .ok (.ireturn, 1) := by decide +kernel
theorem dX9_isInRange_81 : decode cX9_isInRange 81 = .ok (.iconst 1, 1) := by decide +kernel
theorem dX9_isInRange_82 : decode cX9_isInRange 82 = .ok (.ireturn, 1) := by decide +kernel
theorem dX9_readProgram_0 : decode cX9_readProgram 0 = .ok (.aload_n 0, 1) := by decide +kernel
theorem dX9_readProgram_1 : decode cX9_readProgram 1 = .ok (.iload_n 1, 1) := by decide +kernel
theorem dX9_readProgram_2 : decode cX9_readProgram 2 = .ok (.invokevirtual 154, 3) := by decide +kernel
theorem dX9_readProgram_5 : decode cX9_readProgram 5 = .ok (.ifCond .ne 5, 3) := by decide +kernel
theorem dX9_readProgram_8 : decode cX9_readProgram 8 = .ok (.iconst (-1), 1) := by decide +kernel
theorem dX9_readProgram_9 : decode cX9_readProgram 9 = .ok (.ireturn, 1) := by decide +kernel
theorem dX9_readProgram_10 : decode cX9_readProgram 10 = .ok (.aload_n 0, 1) := by decide +kernel
theorem dX9_readProgram_11 : decode cX9_readProgram 11 = .ok (.invokevirtual 157, 3) := by decide +kernel
theorem dX9_readProgram_14 : decode cX9_readProgram 14 = .ok (.istore_n 2, 1) := by decide +kernel
theorem dX9_readProgram_15 : decode cX9_readProgram 15 = .ok (.iload_n 2, 1) := by decide +kernel
theorem dX9_readProgram_16 : decode cX9_readProgram 16 = .ok (.bipush (-5), 2) := by decide +kernel
theorem dX9_readProgram_18 : decode cX9_readProgram 18 = .ok (.if_icmp .eq 8, 3) := by decide +kernel
theorem dX9_readProgram_21 : decode cX9_readProgram 21 = .ok (.bipush (-100), 2) := by decide +kernel
theorem dX9_readProgram_23 : decode cX9_readProgram 23 = .ok (.iload_n 2, 1) := by decide +kernel
theorem dX9_readProgram_24 : decode cX9_readProgram 24 = .ok (.isub, 1) := by decide +kernel
theorem dX9_readProgram_25 : decode cX9_readProgram 25 = .ok (.ireturn, 1) := by decide +kernel
theorem dX9_readProgram_26 : decode cX9_readProgram 26 = .ok (.iconst 0, 1) := by decide +kernel
theorem dX9_readProgram_27 : decode cX9_readProgram 27 = .ok (.istore_n 3, 1) := by decide +kernel
theorem dX9_readProgram_28 : decode cX9_readProgram 28 = .ok (.iload_n 3, 1) := by decide +kernel
theorem dX9_readProgram_29 : decode cX9_readProgram 29 = .ok (.aload_n 0, 1) := by decide +kernel
theorem dX9_readProgram_30 : decode cX9_readProgram 30 = .ok (.getfield 148, 3) := by decide +kernel
theorem dX9_readProgram_33 : decode cX9_readProgram 33 = .ok (.if_icmp .ge 20, 3) := by decide +kernel
theorem dX9_readProgram_36 : decode cX9_readProgram 36 = .ok (.aload_n 0, 1) := by decide +kernel
theorem dX9_readProgram_37 : decode cX9_readProgram 37 = .ok (.iload_n 3, 1) := by decide +kernel
theorem dX9_readProgram_38 : decode cX9_readProgram 38 = .ok (.invokevirtual 160, 3) := by decide +kernel
theorem dX9_readProgram_41 : decode cX9_readProgram 41 = .ok (.ifCond .ne 6, 3) := by decide +kernel
theorem dX9_readProgram_44 : decode cX9_readProgram 44 = .ok (.bipush (-2), 2) := by decide +kernel
theorem dX9_readProgram_46 : decode cX9_readProgram 46 = .ok (.ireturn, 1) := by decide +kernel
theorem dX9_readProgram_47 : decode cX9_readProgram 47 = .ok (.iinc 3 1, 3) := by decide +kernel
theorem dX9_readProgram_50 : decode cX9_readProgram 50 = .ok (.goto (-22), 3) := by decide +kernel
theorem dX9_readProgram_53 : decode cX9_readProgram 53 = .ok (.aload_n 0, 1) := by decide +kernel
theorem dX9_readProgram_54 : decode cX9_readProgram 54 = .ok (.getfield 148, 3) := by decide +kernel
theorem dX9_readProgram_57 : decode cX9_readProgram 57 = .ok (.bipush 12, 2) := by decide +kernel
theorem dX9_readProgram_59 : decode cX9_readProgram 59 = .ok (.if_icmp .le 6, 3) := by decide +kernel
theorem dX9_readProgram_62 : decode cX9_readProgram 62 = .ok (.bipush (-3), 2) := by decide +kernel
theorem dX9_readProgram_64 : decode cX9_readProgram 64 = .ok (.ireturn, 1) := by decide +kernel
theorem dX9_readProgram_65 : decode cX9_readProgram 65 = .ok (.aload_n 0, 1) := by decide +kernel
theorem dX9_readProgram_66 : decode cX9_readProgram 66 = .ok (.iload_n 1, 1) := by decide +kernel
theorem dX9_readProgram_67 : decode cX9_readProgram 67 = .ok (.invokevirtual 79, 3) := by decide +kernel
theorem dX9_readProgram_70 : decode cX9_readProgram 70 = .ok (.ifCond .eq 6, 3) := by decide +kernel
theorem dX9_readProgram_73 : decode cX9_readProgram 73 = .ok (.bipush (-4), 2) := by decide +kernel
theorem dX9_readProgram_75 : decode cX9_readProgram 75 = .ok (.ireturn, 1) := by decide +kernel
theorem dX9_readProgram_76 : decode cX9_readProgram 76 = .ok (.aload_n 0, 1) := by decide +kernel
theorem dX9_readProgram_77 : decode cX9_readProgram 77 = .ok (.invokevirtual 60, 3) := by decide +kernel
theorem dX9_readProgram_80 : decode cX9_readProgram 80 = .ok (.iconst 0, 1) := by decide +kernel
theorem dX9_readProgram_81 : decode cX9_readProgram 81 = .ok (.istore_n 3, 1) := by decide +kernel
theorem dX9_readProgram_82 : decode cX9_readProgram 82 = .ok (.iload_n 3, 1) := by decide +kernel
theorem dX9_readProgram_83 : decode cX9_readProgram 83 = .ok (.aload_n 0, 1) := by decide +kernel
theorem dX9_readProgram_84 : decode cX9_readProgram 84 = .ok (.getfield 148, 3) := by decide +kernel
theorem dX9_readProgram_87 : decode cX9_readProgram 87 = .ok (.if_icmp .ge 39, 3) := by decide +kernel
theorem dX9_readProgram_90 : decode cX9_readProgram 90 = .ok (.aload_n 0, 1) := by decide +kernel
theorem dX9_readProgram_91 : decode cX9_readProgram 91 = .ok (.iload_n 1, 1) := by decide +kernel
theorem dX9_readProgram_92 : decode cX9_readProgram 92 = .ok (.bipush 18, 2) := by decide +kernel
theorem dX9_readProgram_94 : decode cX9_readProgram 94 = .ok (.iload_n 3, 1) := by decide +kernel
theorem dX9_readProgram_95 : decode cX9_readProgram 95 = .ok (.iadd, 1) := by decide +kernel
theorem dX9_readProgram_96 : decode cX9_readProgram 96 = .ok (.aload_n 0, 1) := by decide +kernel
theorem dX9_readProgram_97 : decode cX9_readProgram 97 = .ok (.getfield 31, 3) := by decide +kernel
theorem dX9_readProgram_100 : decode cX9_readProgram 100 = .ok (.iload_n 3, 1) := by decide +kernel
theorem dX9_readProgram_101 : decode cX9_readProgram 101 = .ok (.iaload, 1) := by decide +kernel
theorem dX9_readProgram_102 : decode cX9_readProgram 102 = .ok (.invokevirtual 63, 3) := by decide +kernel
theorem dX9_readProgram_105 : decode cX9_readProgram 105 = .ok (.aload_n 0, 1) := by decide +kernel
theorem dX9_readProgram_106 : decode cX9_readProgram 106 = .ok (.iload_n 1, 1) := by decide +kernel
theorem dX9_readProgram_107 : decode cX9_readProgram 107 = .ok (.bipush 30, 2) := by decide +kernel
theorem dX9_readProgram_109 : decode cX9_readProgram 109 = .ok (.iload_n 3, 1) := by decide +kernel
theorem dX9_readProgram_110 : decode cX9_readProgram 110 = .ok (.iadd, 1) := by decide +kernel
theorem dX9_readProgram_111 : decode cX9_readProgram 111 = .ok (.aload_n 0, 1) := by decide +kernel
theorem dX9_readProgram_112 : decode cX9_readProgram 112 = .ok (.getfield 34, 3) := by decide +kernel
theorem dX9_readProgram_115 : decode cX9_readProgram 115 = .ok (.iload_n 3, 1) := by decide +kernel
theorem dX9_readProgram_116 : decode cX9_readProgram 116 = .ok (.iaload, 1) := by decide +kernel
theorem dX9_readProgram_117 : decode cX9_readProgram 117 = .ok (.invokevirtual 63, 3) := by decide +kernel
theorem dX9_readProgram_120 : decode cX9_readProgram 120 = .ok (.iinc 3 1, 3) := by decide +kernel
theorem dX9_readProgram_123 : decode cX9_readProgram 123 = .ok (.goto (-41), 3) := by decide +kernel
theorem dX9_readProgram_126 : decode cX9_readProgram 126 = .ok (.aload_n 0, 1) := by decide +kernel
theorem dX9_readProgram_127 : decode cX9_readProgram 127 = .ok (.iload_n 1, 1) := by decide +kernel
theorem dX9_readProgram_128 : decode cX9_readProgram 128 = .ok (.bipush 15, 2) := by decide +kernel
theorem dX9_readProgram_130 : decode cX9_readProgram 130 = .ok (.aload_n 0, 1) := by decide +kernel
theorem dX9_readProgram_131 : decode cX9_readProgram 131 = .ok (.getfield 148, 3) := by decide +kernel
theorem dX9_readProgram_134 : decode cX9_readProgram 134 = .ok (.invokevirtual 63, 3) := by decide +kernel
theorem dX9_readProgram_137 : decode cX9_readProgram 137 = .ok (.aload_n 0, 1) := by decide +kernel
theorem dX9_readProgram_138 : decode cX9_readProgram 138 = .ok (.getfield 148, 3) := by decide +kernel
theorem dX9_readProgram_141 : decode cX9_readProgram 141 = .ok (.ireturn, 1) := by decide +kernel
theorem dX9_start_0 : decode cX9_start 0 = .ok (.aload_n 0, 1) := by decide +kernel
theorem dX9_start_1 : decode cX9_start 1 = .ok (.iload_n 1, 1) := by decide +kernel
theorem dX9_start_2 : decode cX9_start 2 = .ok (.invokevirtual 154, 3) := by decide +kernel
theorem dX9_start_5 : decode cX9_start 5 = .ok (.ifCond .ne 5, 3) := by decide +kernel
theorem dX9_start_8 : decode cX9_start 8 = .ok (.iconst (-1), 1) := by decide +kernel
theorem dX9_start_9 : decode cX9_start 9 = .ok (.ireturn, 1) := by decide +kernel
theorem dX9_start_10 : decode cX9_start 10 = .ok (.aload_n 0, 1) := by decide +kernel
theorem dX9_start_11 : decode cX9_start 11 = .ok (.getfield 7, 3) := by decide +kernel
theorem dX9_start_14 : decode cX9_start 14 = .ok (.iconst 1, 1) := by decide +kernel
theorem dX9_start_15 : decode cX9_start 15 = .ok (.iaload, 1) := by decide +kernel
theorem dX9_start_16 : decode cX9_start 16 = .ok (.ifCond .eq 33, 3) := by decide +kernel
theorem dX9_start_19 : decode cX9_start 19 = .ok (.aload_n 0, 1) := by decide +kernel
theorem dX9_start_20 : decode cX9_start 20 = .ok (.iload_n 1, 1) := by decide +kernel
theorem dX9_start_21 : decode cX9_start 21 = .ok (.bipush 15, 2) := by decide +kernel
theorem dX9_start_23 : decode cX9_start 23 = .ok (.invokevirtual 49, 3) := by decide +kernel
theorem dX9_start_26 : decode cX9_start 26 = .ok (.ifCond .eq 23, 3) := by decide +kernel
theorem dX9_start_29 : decode cX9_start 29 = .ok (.aload_n 0, 1) := by decide +kernel
theorem dX9_start_30 : decode cX9_start 30 = .ok (.iload_n 1, 1) := by decide +kernel
theorem dX9_start_31 : decode cX9_start 31 = .ok (.bipush 9, 2) := by decide +kernel
theorem dX9_start_33 : decode cX9_start 33 = .ok (.invokevirtual 49, 3) := by decide +kernel
theorem dX9_start_36 : decode cX9_start 36 = .ok (.ifCond .ne 13, 3) := by decide +kernel
theorem dX9_start_39 : decode cX9_start 39 = .ok (.aload_n 0, 1) := by decide +kernel
theorem dX9_start_40 : decode cX9_start 40 = .ok (.iload_n 1, 1) := by decide +kernel
theorem dX9_start_41 : decode cX9_start 41 = .ok (.bipush 13, 2) := by decide +kernel
theorem dX9_start_43 : decode cX9_start 43 = .ok (.invokevirtual 49, 3) := by decide +kernel
theorem dX9_start_46 : decode cX9_start 46 = .ok (.ifCond .ne 6, 3) := by decide +kernel
theorem dX9_start_49 : decode cX9_start 49 = .ok (.bipush (-4), 2) := by decide +kernel
theorem dX9_start_51 : decode cX9_start 51 = .ok (.ireturn, 1) := by decide +kernel
theorem dX9_start_52 : decode cX9_start 52 = .ok (.aload_n 0, 1) := by decide +kernel
theorem dX9_start_53 : decode cX9_start 53 = .ok (.invokevirtual 60, 3) := by decide +kernel
theorem dX9_start_56 : decode cX9_start 56 = .ok (.aload_n 0, 1) := by decide +kernel
theorem dX9_start_57 : decode cX9_start 57 = .ok (.iload_n 1, 1) := by decide +kernel
theorem dX9_start_58 : decode cX9_start 58 = .ok (.bipush 9, 2) := by decide +kernel
theorem dX9_start_60 : decode cX9_start 60 = .ok (.iconst 1, 1) := by decide +kernel
theorem dX9_start_61 : decode cX9_start 61 = .ok (.invokevirtual 63, 3) := by decide +kernel
theorem dX9_start_64 : decode cX9_start 64 = .ok (.aload_n 0, 1) := by decide +kernel
theorem dX9_start_65 : decode cX9_start 65 = .ok (.iload_n 1, 1) := by decide +kernel
theorem dX9_start_66 : decode cX9_start 66 = .ok (.bipush 13, 2) := by decide +kernel
theorem dX9_start_68 : decode cX9_start 68 = .ok (.iconst 2, 1) := by decide +kernel
theorem dX9_start_69 : decode cX9_start 69 = .ok (.invokevirtual 63, 3) := by decide +kernel
theorem dX9_start_72 : decode cX9_start 72 = .ok (.aload_n 0, 1) := by decide +kernel
theorem dX9_start_73 : decode cX9_start 73 = .ok (.iload_n 1, 1) := by decide +kernel
theorem dX9_start_74 : decode cX9_start 74 = .ok (.iconst 0, 1) := by decide +kernel
theorem dX9_start_75 : decode cX9_start 75 = .ok (.invokevirtual 114, 3) := by decide +kernel
theorem dX9_start_78 : decode cX9_start 78 = .ok (.aload_n 0, 1) := by decide +kernel
theorem dX9_start_79 : decode cX9_start 79 = .ok (.iload_n 1, 1) := by decide +kernel
theorem dX9_start_80 : decode cX9_start 80 = .ok (.bipush 15, 2) := by decide +kernel
theorem dX9_start_82 : decode cX9_start 82 = .ok (.invokevirtual 49, 3) := by decide +kernel
theorem dX9_start_85 : decode cX9_start 85 = .ok (.ireturn, 1) := by decide +kernel
theorem dX9_stop_0 : decode cX9_stop 0 = .ok (.aload_n 0, 1) := by decide +kernel
theorem dX9_stop_1 : decode cX9_stop 1 = .ok (.iload_n 1, 1) := by decide +kernel
theorem dX9_stop_2 : decode cX9_stop 2 = .ok (.invokevirtual 154, 3) := by decide +kernel
theorem dX9_stop_5 : decode cX9_stop 5 = .ok (.ifCond .ne 7, 3) := by decide +kernel
theorem dX9_stop_8 : decode cX9_stop 8 = .ok (.iconst (-1), 1) := by decide +kernel
theorem dX9_stop_9 : decode cX9_stop 9 = .ok (.goto 19, 3) := by decide +kernel
theorem dX9_stop_12 : decode cX9_stop 12 = .ok (.aload_n 0, 1) := by decide +kernel
theorem dX9_stop_13 : decode cX9_stop 13 = .ok (.iload_n 1, 1) := by decide +kernel
theorem dX9_stop_14 : decode cX9_stop 14 = .ok (.bipush 9, 2) := by decide +kernel
theorem dX9_stop_16 : decode cX9_stop 16 = .ok (.invokevirtual 49, 3) := by decide +kernel
theorem dX9_stop_19 : decode cX9_stop 19 = .ok (.ifCond .ne 8, 3) := by decide +kernel
theorem dX9_stop_22 : decode cX9_stop 22 = .ok (.bipush (-5), 2) := by decide +kernel
theorem dX9_stop_24 : decode cX9_stop 24 = .ok (.goto 4, 3) := by decide +kernel
theorem dX9_stop_27 : decode cX9_stop 27 = .ok (.iconst 0, 1) := by decide +kernel
theorem dX9_stop_28 : decode cX9_stop 28 = .ok (.istore_n 2, 1) := by decide +kernel
theorem dX9_stop_29 : decode cX9_stop 29 = .ok (.iload_n 2, 1) := by decide +kernel
theorem dX9_stop_30 : decode cX9_stop 30 = .ok (.ifCond .ge 5, 3) := by decide +kernel
theorem dX9_stop_33 : decode cX9_stop 33 = .ok (.iload_n 2, 1) := by decide +kernel
theorem dX9_stop_34 : decode cX9_stop 34 = .ok (.ireturn, 1) := by decide +kernel
theorem dX9_stop_35 : decode cX9_stop 35 = .ok (.aload_n 0, 1) := by decide +kernel
theorem dX9_stop_36 : decode cX9_stop 36 = .ok (.invokevirtual 60, 3) := by decide +kernel
theorem dX9_stop_39 : decode cX9_stop 39 = .ok (.aload_n 0, 1) := by decide +kernel
theorem dX9_stop_40 : decode cX9_stop 40 = .ok (.iload_n 1, 1) := by decide +kernel
theorem dX9_stop_41 : decode cX9_stop 41 = .ok (.bipush 9, 2) := by decide +kernel
theorem dX9_stop_43 : decode cX9_stop 43 = .ok (.iconst 0, 1) := by decide +kernel
theorem dX9_stop_44 : decode cX9_stop 44 = .ok (.invokevirtual 63, 3) := by decide +kernel
theorem dX9_stop_47 : decode cX9_stop 47 = .ok (.aload_n 0, 1) := by decide +kernel
theorem dX9_stop_48 : decode cX9_stop 48 = .ok (.iload_n 1, 1) := by decide +kernel
theorem dX9_stop_49 : decode cX9_stop 49 = .ok (.bipush 10, 2) := by decide +kernel
theorem dX9_stop_51 : decode cX9_stop 51 = .ok (.invokevirtual 49, 3) := by decide +kernel
theorem dX9_stop_54 : decode cX9_stop 54 = .ok (.ireturn, 1) := by decide +kernel
theorem dX9_bail_0 : decode cX9_bail 0 = .ok (.aload_n 0, 1) := by decide +kernel
theorem dX9_bail_1 : decode cX9_bail 1 = .ok (.iload_n 1, 1) := by decide +kernel
theorem dX9_bail_2 : decode cX9_bail 2 = .ok (.invokevirtual 154, 3) := by decide +kernel
theorem dX9_bail_5 : decode cX9_bail 5 = .ok (.ifCond .ne 7, 3) := by decide +kernel
theorem dX9_bail_8 : decode cX9_bail 8 = .ok (.iconst (-1), 1) := by decide +kernel
theorem dX9_bail_9 : decode cX9_bail 9 = .ok (.goto 32, 3) := by decide +kernel
theorem dX9_bail_12 : decode cX9_bail 12 = .ok (.aload_n 0, 1) := by decide +kernel
theorem dX9_bail_13 : decode cX9_bail 13 = .ok (.iload_n 1, 1) := by decide +kernel
theorem dX9_bail_14 : decode cX9_bail 14 = .ok (.invokevirtual 79, 3) := by decide +kernel
theorem dX9_bail_17 : decode cX9_bail 17 = .ok (.ifCond .eq 8, 3) := by decide +kernel
theorem dX9_bail_20 : decode cX9_bail 20 = .ok (.bipush (-4), 2) := by decide +kernel
theorem dX9_bail_22 : decode cX9_bail 22 = .ok (.goto 19, 3) := by decide +kernel
theorem dX9_bail_25 : decode cX9_bail 25 = .ok (.aload_n 0, 1) := by decide +kernel
theorem dX9_bail_26 : decode cX9_bail 26 = .ok (.iload_n 1, 1) := by decide +kernel
theorem dX9_bail_27 : decode cX9_bail 27 = .ok (.bipush 11, 2) := by decide +kernel
theorem dX9_bail_29 : decode cX9_bail 29 = .ok (.invokevirtual 49, 3) := by decide +kernel
theorem dX9_bail_32 : decode cX9_bail 32 = .ok (.ifCond .ne 8, 3) := by decide +kernel
theorem dX9_bail_35 : decode cX9_bail 35 = .ok (.bipush (-5), 2) := by decide +kernel
theorem dX9_bail_37 : decode cX9_bail 37 = .ok (.goto 4, 3) := by decide +kernel
theorem dX9_bail_40 : decode cX9_bail 40 = .ok (.iconst 0, 1) := by decide +kernel
theorem dX9_bail_41 : decode cX9_bail 41 = .ok (.istore_n 2, 1) := by decide +kernel
theorem dX9_bail_42 : decode cX9_bail 42 = .ok (.iload_n 2, 1) := by decide +kernel
theorem dX9_bail_43 : decode cX9_bail 43 = .ok (.ifCond .ge 5, 3) := by decide +kernel
theorem dX9_bail_46 : decode cX9_bail 46 = .ok (.iload_n 2, 1) := by decide +kernel
theorem dX9_bail_47 : decode cX9_bail 47 = .ok (.ireturn, 1) := by decide +kernel
theorem dX9_bail_48 : decode cX9_bail 48 = .ok (.aload_n 0, 1) := by decide +kernel
theorem dX9_bail_49 : decode cX9_bail 49 = .ok (.invokevirtual 60, 3) := by decide +kernel
theorem dX9_bail_52 : decode cX9_bail 52 = .ok (.aload_n 0, 1) := by decide +kernel
theorem dX9_bail_53 : decode cX9_bail 53 = .ok (.iload_n 1, 1) := by decide +kernel
theorem dX9_bail_54 : decode cX9_bail 54 = .ok (.bipush 11, 2) := by decide +kernel
theorem dX9_bail_56 : decode cX9_bail 56 = .ok (.invokevirtual 49, 3) := by decide +kernel
theorem dX9_bail_59 : decode cX9_bail 59 = .ok (.istore_n 3, 1) := by decide +kernel
theorem dX9_bail_60 : decode cX9_bail 60 = .ok (.aload_n 0, 1) := by decide +kernel
theorem dX9_bail_61 : decode cX9_bail 61 = .ok (.iload_n 1, 1) := by decide +kernel
theorem dX9_bail_62 : decode cX9_bail 62 = .ok (.bipush 11, 2) := by decide +kernel
theorem dX9_bail_64 : decode cX9_bail 64 = .ok (.iconst 0, 1) := by decide +kernel
theorem dX9_bail_65 : decode cX9_bail 65 = .ok (.invokevirtual 63, 3) := by decide +kernel
theorem dX9_bail_68 : decode cX9_bail 68 = .ok (.aload_n 0, 1) := by decide +kernel
theorem dX9_bail_69 : decode cX9_bail 69 = .ok (.iload_n 1, 1) := by decide +kernel
theorem dX9_bail_70 : decode cX9_bail 70 = .ok (.bipush 12, 2) := by decide +kernel
theorem dX9_bail_72 : decode cX9_bail 72 = .ok (.iconst 0, 1) := by decide +kernel
theorem dX9_bail_73 : decode cX9_bail 73 = .ok (.invokevirtual 63, 3) := by decide +kernel
theorem dX9_bail_76 : decode cX9_bail 76 = .ok (.iload_n 3, 1) := by decide +kernel
theorem dX9_bail_77 : decode cX9_bail 77 = .ok (.ireturn, 1) := by decide +kernel
theorem dX9_openDoor_0 : decode cX9_openDoor 0 = .ok (.aload_n 0, 1) := by decide +kernel
theorem dX9_openDoor_1 : decode cX9_openDoor 1 = .ok (.iload_n 1, 1) := by decide +kernel
theorem dX9_openDoor_2 : decode cX9_openDoor 2 = .ok (.invokevirtual 154, 3) := by decide +kernel
theorem dX9_openDoor_5 : decode cX9_openDoor 5 = .ok (.ifCond .ne 7, 3) := by decide +kernel
theorem dX9_openDoor_8 : decode cX9_openDoor 8 = .ok (.iconst (-1), 1) := by decide +kernel
theorem dX9_openDoor_9 : decode cX9_openDoor 9 = .ok (.goto 35, 3) := by decide +kernel
theorem dX9_openDoor_12 : decode cX9_openDoor 12 = .ok (.aload_n 0, 1) := by decide +kernel
theorem dX9_openDoor_13 : decode cX9_openDoor 13 = .ok (.iload_n 1, 1) := by decide +kernel
theorem dX9_openDoor_14 : decode cX9_openDoor 14 = .ok (.bipush 13, 2) := by decide +kernel
theorem dX9_openDoor_16 : decode cX9_openDoor 16 = .ok (.invokevirtual 49, 3) := by decide +kernel
theorem dX9_openDoor_19 : decode cX9_openDoor 19 = .ok (.iconst 2, 1) := by decide +kernel
theorem dX9_openDoor_20 : decode cX9_openDoor 20 = .ok (.if_icmp .ne 8, 3) := by decide +kernel
theorem dX9_openDoor_23 : decode cX9_openDoor 23 = .ok (.bipush (-4), 2) := by decide +kernel
theorem dX9_openDoor_25 : decode cX9_openDoor 25 = .ok (.goto 19, 3) := by decide +kernel
theorem dX9_openDoor_28 : decode cX9_openDoor 28 = .ok (.aload_n 0, 1) := by decide +kernel
theorem dX9_openDoor_29 : decode cX9_openDoor 29 = .ok (.iload_n 1, 1) := by decide +kernel
theorem dX9_openDoor_30 : decode cX9_openDoor 30 = .ok (.bipush 13, 2) := by decide +kernel
theorem dX9_openDoor_32 : decode cX9_openDoor 32 = .ok (.invokevirtual 49, 3) := by decide +kernel
theorem dX9_openDoor_35 : decode cX9_openDoor 35 = .ok (.ifCond .ne 8, 3) := by decide +kernel
theorem dX9_openDoor_38 : decode cX9_openDoor 38 = .ok (.bipush (-5), 2) := by decide +kernel
theorem dX9_openDoor_40 : decode cX9_openDoor 40 = .ok (.goto 4, 3) := by decide +kernel
theorem dX9_openDoor_43 : decode cX9_openDoor 43 = .ok (.iconst 0, 1) := by decide +kernel
theorem dX9_openDoor_44 : decode cX9_openDoor 44 = .ok (.istore_n 2, 1) := by decide +kernel
theorem dX9_openDoor_45 : decode cX9_openDoor 45 = .ok (.iload_n 2, 1) := by decide +kernel
theorem dX9_openDoor_46 : decode cX9_openDoor 46 = .ok (.ifCond .ge 5, 3) := by decide +kernel
theorem dX9_openDoor_49 : decode cX9_openDoor 49 = .ok (.iload_n 2, 1) := by decide +kernel
theorem dX9_openDoor_50 : decode cX9_openDoor 50 = .ok (.ireturn, 1) := by decide +kernel
theorem dX9_openDoor_51 : decode cX9_openDoor 51 = .ok (.aload_n 0, 1) := by decide +kernel
theorem dX9_openDoor_52 : decode cX9_openDoor 52 = .ok (.invokevirtual 60, 3) := by decide +kernel
theorem dX9_openDoor_55 : decode cX9_openDoor 55 = .ok (.aload_n 0, 1) := by decide +kernel
theorem dX9_openDoor_56 : decode cX9_openDoor 56 = .ok (.iload_n 1, 1) := by decide +kernel
theorem dX9_openDoor_57 : decode cX9_openDoor 57 = .ok (.bipush 13, 2) := by decide +kernel
theorem dX9_openDoor_59 : decode cX9_openDoor 59 = .ok (.iconst 0, 1) := by decide +kernel
theorem dX9_openDoor_60 : decode cX9_openDoor 60 = .ok (.invokevirtual 63, 3) := by decide +kernel
theorem dX9_openDoor_63 : decode cX9_openDoor 63 = .ok (.aload_n 0, 1) := by decide +kernel
theorem dX9_openDoor_64 : decode cX9_openDoor 64 = .ok (.iload_n 1, 1) := by decide +kernel
theorem dX9_openDoor_65 : decode cX9_openDoor 65 = .ok (.invokevirtual 68, 3) := by decide +kernel
theorem dX9_openDoor_68 : decode cX9_openDoor 68 = .ok (.ireturn, 1) := by decide +kernel
theorem dX9_closeDoor_0 : decode cX9_closeDoor 0 = .ok (.aload_n 0, 1) := by decide +kernel
theorem dX9_closeDoor_1 : decode cX9_closeDoor 1 = .ok (.iload_n 1, 1) := by decide +kernel
theorem dX9_closeDoor_2 : decode cX9_closeDoor 2 = .ok (.invokevirtual 154, 3) := by decide +kernel
theorem dX9_closeDoor_5 : decode cX9_closeDoor 5 = .ok (.ifCond .ne 7, 3) := by decide +kernel
theorem dX9_closeDoor_8 : decode cX9_closeDoor 8 = .ok (.iconst (-1), 1) := by decide +kernel
theorem dX9_closeDoor_9 : decode cX9_closeDoor 9 = .ok (.goto 19, 3) := by decide +kernel
theorem dX9_closeDoor_12 : decode cX9_closeDoor 12 = .ok (.aload_n 0, 1) := by decide +kernel
theorem dX9_closeDoor_13 : decode cX9_closeDoor 13 = .ok (.iload_n 1, 1) := by decide +kernel
theorem dX9_closeDoor_14 : decode cX9_closeDoor 14 = .ok (.bipush 13, 2) := by decide +kernel
theorem dX9_closeDoor_16 : decode cX9_closeDoor 16 = .ok (.invokevirtual 49, 3) := by decide +kernel
theorem dX9_closeDoor_19 : decode cX9_closeDoor 19 = .ok (.ifCond .eq 8, 3) := by decide +kernel
theorem dX9_closeDoor_22 : decode cX9_closeDoor 22 = .ok (.bipush (-5), 2) := by decide +kernel
theorem dX9_closeDoor_24 : decode cX9_closeDoor 24 = .ok (.goto 4, 3) := by decide +kernel
theorem dX9_closeDoor_27 : decode cX9_closeDoor 27 = .ok (.iconst 0, 1) := by decide +kernel
theorem dX9_closeDoor_28 : decode cX9_closeDoor 28 = .ok (.istore_n 2, 1) := by decide +kernel
theorem dX9_closeDoor_29 : decode cX9_closeDoor 29 = .ok (.iload_n 2, 1) := by decide +kernel
theorem dX9_closeDoor_30 : decode cX9_closeDoor 30 = .ok (.ifCond .ge 5, 3) := by decide +kernel
theorem dX9_closeDoor_33 : decode cX9_closeDoor 33 = .ok (.iload_n 2, 1) := by decide +kernel
theorem dX9_closeDoor_34 : decode cX9_closeDoor 34 = .ok (.ireturn, 1) := by decide +kernel
theorem dX9_closeDoor_35 : decode cX9_closeDoor 35 = .ok (.aload_n 0, 1) := by decide +kernel
theorem dX9_closeDoor_36 : decode cX9_closeDoor 36 = .ok (.invokevirtual 60, 3) := by decide +kernel
theorem dX9_closeDoor_39 : decode cX9_closeDoor 39 = .ok (.aload_n 0, 1) := by decide +kernel
theorem dX9_closeDoor_40 : decode cX9_closeDoor 40 = .ok (.iload_n 1, 1) := by decide +kernel
theorem dX9_closeDoor_41 : decode cX9_closeDoor 41 = .ok (.bipush 13, 2) := by decide +kernel
theorem dX9_closeDoor_43 : decode cX9_closeDoor 43 = .ok (.iconst 1, 1) := by decide +kernel
theorem dX9_closeDoor_44 : decode cX9_closeDoor 44 = .ok (.invokevirtual 63, 3) := by decide +kernel
theorem dX9_closeDoor_47 : decode cX9_closeDoor 47 = .ok (.iconst 1, 1) := by decide +kernel
theorem dX9_closeDoor_48 : decode cX9_closeDoor 48 = .ok (.ireturn, 1) := by decide +kernel
theorem dX9_askOf_0 : decode cX9_askOf 0 = .ok (.iload_n 2, 1) := by decide +kernel
theorem dX9_askOf_1 : decode cX9_askOf 1 = .ok (.aload_n 0, 1) := by decide +kernel
theorem dX9_askOf_2 : decode cX9_askOf 2 = .ok (.iload_n 1, 1) := by decide +kernel
theorem dX9_askOf_3 : decode cX9_askOf 3 = .ok (.iconst 1, 1) := by decide +kernel
theorem dX9_askOf_4 : decode cX9_askOf 4 = .ok (.invokevirtual 49, 3) := by decide +kernel
theorem dX9_askOf_7 : decode cX9_askOf 7 = .ok (.imul, 1) := by decide +kernel
theorem dX9_askOf_8 : decode cX9_askOf 8 = .ok (.aload_n 0, 1) := by decide +kernel
theorem dX9_askOf_9 : decode cX9_askOf 9 = .ok (.iload_n 1, 1) := by decide +kernel
theorem dX9_askOf_10 : decode cX9_askOf 10 = .ok (.invokevirtual 79, 3) := by decide +kernel
theorem dX9_askOf_13 : decode cX9_askOf 13 = .ok (.ifCond .eq 7, 3) := by decide +kernel
theorem dX9_askOf_16 : decode cX9_askOf 16 = .ok (.iconst 2, 1) := by decide +kernel
theorem dX9_askOf_17 : decode cX9_askOf 17 = .ok (.goto 4, 3) := by decide +kernel
theorem dX9_askOf_20 : decode cX9_askOf 20 = .ok (.iconst 1, 1) := by decide +kernel
theorem dX9_askOf_21 : decode cX9_askOf 21 = .ok (.imul, 1) := by decide +kernel
theorem dX9_askOf_22 : decode cX9_askOf 22 = .ok (.ireturn, 1) := by decide +kernel
theorem dX9_hasToLend_0 : decode cX9_hasToLend 0 = .ok (.aload_n 0, 1) := by decide +kernel
theorem dX9_hasToLend_1 : decode cX9_hasToLend 1 = .ok (.iload_n 1, 1) := by decide +kernel
theorem dX9_hasToLend_2 : decode cX9_hasToLend 2 = .ok (.iconst 0, 1) := by decide +kernel
theorem dX9_hasToLend_3 : decode cX9_hasToLend 3 = .ok (.invokevirtual 49, 3) := by decide +kernel
theorem dX9_hasToLend_6 : decode cX9_hasToLend 6 = .ok (.aload_n 0, 1) := by decide +kernel
theorem dX9_hasToLend_7 : decode cX9_hasToLend 7 = .ok (.iload_n 1, 1) := by decide +kernel
theorem dX9_hasToLend_8 : decode cX9_hasToLend 8 = .ok (.invokevirtual 56, 3) := by decide +kernel
theorem dX9_hasToLend_11 : decode cX9_hasToLend 11 = .ok (.isub, 1) := by decide +kernel
theorem dX9_hasToLend_12 : decode cX9_hasToLend 12 = .ok (.iload_n 2, 1) := by decide +kernel
theorem dX9_hasToLend_13 : decode cX9_hasToLend 13 = .ok (.if_icmp .lt 7, 3) := by decide +kernel
theorem dX9_hasToLend_16 : decode cX9_hasToLend 16 = .ok (.iconst 1, 1) := by decide +kernel
theorem dX9_hasToLend_17 : decode cX9_hasToLend 17 = .ok (.goto 4, 3) := by decide +kernel
theorem dX9_hasToLend_20 : decode cX9_hasToLend 20 = .ok (.iconst 0, 1) := by decide +kernel
theorem dX9_hasToLend_21 : decode cX9_hasToLend 21 = .ok (.ireturn, 1) := by decide +kernel
theorem dX9_changePrice_0 : decode cX9_changePrice 0 = .ok (.aload_n 0, 1) := by decide +kernel
theorem dX9_changePrice_1 : decode cX9_changePrice 1 = .ok (.iload_n 1, 1) := by decide +kernel
theorem dX9_changePrice_2 : decode cX9_changePrice 2 = .ok (.iconst 1, 1) := by decide +kernel
theorem dX9_changePrice_3 : decode cX9_changePrice 3 = .ok (.invokevirtual 49, 3) := by decide +kernel
theorem dX9_changePrice_6 : decode cX9_changePrice 6 = .ok (.iload_n 2, 1) := by decide +kernel
theorem dX9_changePrice_7 : decode cX9_changePrice 7 = .ok (.iadd, 1) := by decide +kernel
theorem dX9_changePrice_8 : decode cX9_changePrice 8 = .ok (.istore_n 3, 1) := by decide +kernel
theorem dX9_changePrice_9 : decode cX9_changePrice 9 = .ok (.aload_n 0, 1) := by decide +kernel
theorem dX9_changePrice_10 : decode cX9_changePrice 10 = .ok (.iload_n 1, 1) := by decide +kernel
theorem dX9_changePrice_11 : decode cX9_changePrice 11 = .ok (.iconst 1, 1) := by decide +kernel
theorem dX9_changePrice_12 : decode cX9_changePrice 12 = .ok (.iload_n 3, 1) := by decide +kernel
theorem dX9_changePrice_13 : decode cX9_changePrice 13 = .ok (.iconst 1, 1) := by decide +kernel
theorem dX9_changePrice_14 : decode cX9_changePrice 14 = .ok (.if_icmp .ge 7, 3) := by decide +kernel
theorem dX9_changePrice_17 : decode cX9_changePrice 17 = .ok (.iconst 1, 1) := by decide +kernel
theorem dX9_changePrice_18 : decode cX9_changePrice 18 = .ok (.goto 15, 3) := by decide +kernel
theorem dX9_changePrice_21 : decode cX9_changePrice 21 = .ok (.iload_n 3, 1) := by decide +kernel
theorem dX9_changePrice_22 : decode cX9_changePrice 22 = .ok (.bipush 50, 2) := by decide +kernel
theorem dX9_changePrice_24 : decode cX9_changePrice 24 = .ok (.if_icmp .le 8, 3) := by decide +kernel
theorem dX9_changePrice_27 : decode cX9_changePrice 27 = .ok (.bipush 50, 2) := by decide +kernel
theorem dX9_changePrice_29 : decode cX9_changePrice 29 = .ok (.goto 4, 3) := by decide +kernel
theorem dX9_changePrice_32 : decode cX9_changePrice 32 = .ok (.iload_n 3, 1) := by decide +kernel
theorem dX9_changePrice_33 : decode cX9_changePrice 33 = .ok (.invokevirtual 63, 3) := by decide +kernel
theorem dX9_changePrice_36 : decode cX9_changePrice 36 = .ok (.return_, 1) := by decide +kernel
theorem dX9_deals_0 : decode cX9_deals 0 = .ok (.sipush 351, 3) := by decide +kernel
theorem dX9_deals_3 : decode cX9_deals 3 = .ok (.iconst 5, 1) := by decide +kernel
theorem dX9_deals_4 : decode cX9_deals 4 = .ok (.aload_n 0, 1) := by decide +kernel
theorem dX9_deals_5 : decode cX9_deals 5 = .ok (.getfield 7, 3) := by decide +kernel
theorem dX9_deals_8 : decode cX9_deals 8 = .ok (.bipush 8, 2) := by decide +kernel
theorem dX9_deals_10 : decode cX9_deals 10 = .ok (.iaload, 1) := by decide +kernel
theorem dX9_deals_11 : decode cX9_deals 11 = .ok (.imul, 1) := by decide +kernel
theorem dX9_deals_12 : decode cX9_deals 12 = .ok (.iadd, 1) := by decide +kernel
theorem dX9_deals_13 : decode cX9_deals 13 = .ok (.istore 6, 2) := by decide +kernel
theorem dX9_deals_15 : decode cX9_deals 15 = .ok (.aload_n 0, 1) := by decide +kernel
theorem dX9_deals_16 : decode cX9_deals 16 = .ok (.getfield 7, 3) := by decide +kernel
theorem dX9_deals_19 : decode cX9_deals 19 = .ok (.iload 6, 2) := by decide +kernel
theorem dX9_deals_21 : decode cX9_deals 21 = .ok (.iconst 0, 1) := by decide +kernel
theorem dX9_deals_22 : decode cX9_deals 22 = .ok (.iadd, 1) := by decide +kernel
theorem dX9_deals_23 : decode cX9_deals 23 = .ok (.iload_n 2, 1) := by decide +kernel
theorem dX9_deals_24 : decode cX9_deals 24 = .ok (.iastore, 1) := by decide +kernel
theorem dX9_deals_25 : decode cX9_deals 25 = .ok (.aload_n 0, 1) := by decide +kernel
theorem dX9_deals_26 : decode cX9_deals 26 = .ok (.getfield 7, 3) := by decide +kernel
theorem dX9_deals_29 : decode cX9_deals 29 = .ok (.iload 6, 2) := by decide +kernel
theorem dX9_deals_31 : decode cX9_deals 31 = .ok (.iconst 1, 1) := by decide +kernel
theorem dX9_deals_32 : decode cX9_deals 32 = .ok (.iadd, 1) := by decide +kernel
theorem dX9_deals_33 : decode cX9_deals 33 = .ok (.iload_n 1, 1) := by decide +kernel
theorem dX9_deals_34 : decode cX9_deals 34 = .ok (.iastore, 1) := by decide +kernel
theorem dX9_deals_35 : decode cX9_deals 35 = .ok (.aload_n 0, 1) := by decide +kernel
theorem dX9_deals_36 : decode cX9_deals 36 = .ok (.getfield 7, 3) := by decide +kernel
theorem dX9_deals_39 : decode cX9_deals 39 = .ok (.iload 6, 2) := by decide +kernel
theorem dX9_deals_41 : decode cX9_deals 41 = .ok (.iconst 2, 1) := by decide +kernel
theorem dX9_deals_42 : decode cX9_deals 42 = .ok (.iadd, 1) := by decide +kernel
theorem dX9_deals_43 : decode cX9_deals 43 = .ok (.iload_n 3, 1) := by decide +kernel
theorem dX9_deals_44 : decode cX9_deals 44 = .ok (.iastore, 1) := by decide +kernel
theorem dX9_deals_45 : decode cX9_deals 45 = .ok (.aload_n 0, 1) := by decide +kernel
theorem dX9_deals_46 : decode cX9_deals 46 = .ok (.getfield 7, 3) := by decide +kernel
theorem dX9_deals_49 : decode cX9_deals 49 = .ok (.iload 6, 2) := by decide +kernel
theorem dX9_deals_51 : decode cX9_deals 51 = .ok (.iconst 3, 1) := by decide +kernel
theorem dX9_deals_52 : decode cX9_deals 52 = .ok (.iadd, 1) := by decide +kernel
theorem dX9_deals_53 : decode cX9_deals 53 = .ok (.iload 4, 2) := by decide +kernel
theorem dX9_deals_55 : decode cX9_deals 55 = .ok (.iastore, 1) := by decide +kernel
theorem dX9_deals_56 : decode cX9_deals 56 = .ok (.aload_n 0, 1) := by decide +kernel
theorem dX9_deals_57 : decode cX9_deals 57 = .ok (.getfield 7, 3) := by decide +kernel
theorem dX9_deals_60 : decode cX9_deals 60 = .ok (.iload 6, 2) := by decide +kernel
theorem dX9_deals_62 : decode cX9_deals 62 = .ok (.iconst 4, 1) := by decide +kernel
theorem dX9_deals_63 : decode cX9_deals 63 = .ok (.iadd, 1) := by decide +kernel
theorem dX9_deals_64 : decode cX9_deals 64 = .ok (.iload 5, 2) := by decide +kernel
theorem dX9_deals_66 : decode cX9_deals 66 = .ok (.iastore, 1) := by decide +kernel
theorem dX9_deals_67 : decode cX9_deals 67 = .ok (.aload_n 0, 1) := by decide +kernel
theorem dX9_deals_68 : decode cX9_deals 68 = .ok (.getfield 7, 3) := by decide +kernel
theorem dX9_deals_71 : decode cX9_deals 71 = .ok (.bipush 8, 2) := by decide +kernel
theorem dX9_deals_73 : decode cX9_deals 73 = .ok (.dup2, 1) := by decide +kernel
theorem dX9_deals_74 : decode cX9_deals 74 = .ok (.iaload, 1) := by decide +kernel
theorem dX9_deals_75 : decode cX9_deals 75 = .ok (.iconst 1, 1) := by decide +kernel
theorem dX9_deals_76 : decode cX9_deals 76 = .ok (.iadd, 1) := by decide +kernel
theorem dX9_deals_77 : decode cX9_deals 77 = .ok (.iastore, 1) := by decide +kernel
theorem dX9_deals_78 : decode cX9_deals 78 = .ok (.aload_n 0, 1) := by decide +kernel
theorem dX9_deals_79 : decode cX9_deals 79 = .ok (.getfield 7, 3) := by decide +kernel
theorem dX9_deals_82 : decode cX9_deals 82 = .ok (.bipush 9, 2) := by decide +kernel
theorem dX9_deals_84 : decode cX9_deals 84 = .ok (.dup2, 1) := by decide +kernel
theorem dX9_deals_85 : decode cX9_deals 85 = .ok (.iaload, 1) := by decide +kernel
theorem dX9_deals_86 : decode cX9_deals 86 = .ok (.iconst 1, 1) := by decide +kernel
theorem dX9_deals_87 : decode cX9_deals 87 = .ok (.iadd, 1) := by decide +kernel
theorem dX9_deals_88 : decode cX9_deals 88 = .ok (.iastore, 1) := by decide +kernel
theorem dX9_deals_89 : decode cX9_deals 89 = .ok (.aload_n 0, 1) := by decide +kernel
theorem dX9_deals_90 : decode cX9_deals 90 = .ok (.iload_n 1, 1) := by decide +kernel
theorem dX9_deals_91 : decode cX9_deals 91 = .ok (.iconst 2, 1) := by decide +kernel
theorem dX9_deals_92 : decode cX9_deals 92 = .ok (.iload 5, 2) := by decide +kernel
theorem dX9_deals_94 : decode cX9_deals 94 = .ok (.ineg, 1) := by decide +kernel
theorem dX9_deals_95 : decode cX9_deals 95 = .ok (.invokevirtual 101, 3) := by decide +kernel
theorem dX9_deals_98 : decode cX9_deals 98 = .ok (.aload_n 0, 1) := by decide +kernel
theorem dX9_deals_99 : decode cX9_deals 99 = .ok (.iload_n 1, 1) := by decide +kernel
theorem dX9_deals_100 : decode cX9_deals 100 = .ok (.bipush 7, 2) := by decide +kernel
theorem dX9_deals_102 : decode cX9_deals 102 = .ok (.iload 5, 2) := by decide +kernel
theorem dX9_deals_104 : decode cX9_deals 104 = .ok (.invokevirtual 101, 3) := by decide +kernel
theorem dX9_deals_107 : decode cX9_deals 107 = .ok (.aload_n 0, 1) := by decide +kernel
theorem dX9_deals_108 : decode cX9_deals 108 = .ok (.iload_n 1, 1) := by decide +kernel
theorem dX9_deals_109 : decode cX9_deals 109 = .ok (.iconst 5, 1) := by decide +kernel
theorem dX9_deals_110 : decode cX9_deals 110 = .ok (.iconst 1, 1) := by decide +kernel
theorem dX9_deals_111 : decode cX9_deals 111 = .ok (.invokevirtual 101, 3) := by decide +kernel
theorem dX9_deals_114 : decode cX9_deals 114 = .ok (.aload_n 0, 1) := by decide +kernel
theorem dX9_deals_115 : decode cX9_deals 115 = .ok (.iload_n 2, 1) := by decide +kernel
theorem dX9_deals_116 : decode cX9_deals 116 = .ok (.iconst 2, 1) := by decide +kernel
theorem dX9_deals_117 : decode cX9_deals 117 = .ok (.iload 5, 2) := by decide +kernel
theorem dX9_deals_119 : decode cX9_deals 119 = .ok (.invokevirtual 101, 3) := by decide +kernel
theorem dX9_deals_122 : decode cX9_deals 122 = .ok (.aload_n 0, 1) := by decide +kernel
theorem dX9_deals_123 : decode cX9_deals 123 = .ok (.iload_n 2, 1) := by decide +kernel
theorem dX9_deals_124 : decode cX9_deals 124 = .ok (.bipush 8, 2) := by decide +kernel
theorem dX9_deals_126 : decode cX9_deals 126 = .ok (.iload 5, 2) := by decide +kernel
theorem dX9_deals_128 : decode cX9_deals 128 = .ok (.invokevirtual 101, 3) := by decide +kernel
theorem dX9_deals_131 : decode cX9_deals 131 = .ok (.aload_n 0, 1) := by decide +kernel
theorem dX9_deals_132 : decode cX9_deals 132 = .ok (.iload_n 2, 1) := by decide +kernel
theorem dX9_deals_133 : decode cX9_deals 133 = .ok (.iconst 1, 1) := by decide +kernel
theorem dX9_deals_134 : decode cX9_deals 134 = .ok (.invokevirtual 163, 3) := by decide +kernel
theorem dX9_deals_137 : decode cX9_deals 137 = .ok (.return_, 1) := by decide +kernel
theorem dX9_haggle_0 : decode cX9_haggle 0 = .ok (.aload_n 0, 1) := by decide +kernel
theorem dX9_haggle_1 : decode cX9_haggle 1 = .ok (.iload_n 1, 1) := by decide +kernel
theorem dX9_haggle_2 : decode cX9_haggle 2 = .ok (.invokevirtual 154, 3) := by decide +kernel
theorem dX9_haggle_5 : decode cX9_haggle 5 = .ok (.ifCond .eq 11, 3) := by decide +kernel
theorem dX9_haggle_8 : decode cX9_haggle 8 = .ok (.aload_n 0, 1) := by decide +kernel
theorem dX9_haggle_9 : decode cX9_haggle 9 = .ok (.iload_n 2, 1) := by decide +kernel
theorem dX9_haggle_10 : decode cX9_haggle 10 = .ok (.invokevirtual 154, 3) := by decide +kernel
theorem dX9_haggle_13 : decode cX9_haggle 13 = .ok (.ifCond .ne 5, 3) := by decide +kernel
theorem dX9_haggle_16 : decode cX9_haggle 16 = .ok (.iconst (-1), 1) := by decide +kernel
theorem dX9_haggle_17 : decode cX9_haggle 17 = .ok (.ireturn, 1) := by decide +kernel
theorem dX9_haggle_18 : decode cX9_haggle 18 = .ok (.iload_n 3, 1) := by decide +kernel
theorem dX9_haggle_19 : decode cX9_haggle 19 = .ok (.iconst 1, 1) := by decide +kernel
theorem dX9_haggle_20 : decode cX9_haggle 20 = .ok (.bipush 20, 2) := by decide +kernel
theorem dX9_haggle_22 : decode cX9_haggle 22 = .ok (.invokestatic 45, 3) := by decide +kernel
theorem dX9_haggle_25 : decode cX9_haggle 25 = .ok (.ifCond .eq 32, 3) := by decide +kernel
theorem dX9_haggle_28 : decode cX9_haggle 28 = .ok (.iload 4, 2) := by decide +kernel
theorem dX9_haggle_30 : decode cX9_haggle 30 = .ok (.iconst 1, 1) := by decide +kernel
theorem dX9_haggle_31 : decode cX9_haggle 31 = .ok (.sipush 9999, 3) := by decide +kernel
theorem dX9_haggle_34 : decode cX9_haggle 34 = .ok (.invokestatic 45, 3) := by decide +kernel
theorem dX9_haggle_37 : decode cX9_haggle 37 = .ok (.ifCond .eq 20, 3) := by decide +kernel
theorem dX9_haggle_40 : decode cX9_haggle 40 = .ok (.iload 5, 2) := by decide +kernel
theorem dX9_haggle_42 : decode cX9_haggle 42 = .ok (.iconst 1, 1) := by decide +kernel
theorem dX9_haggle_43 : decode cX9_haggle 43 = .ok (.sipush 240, 3) := by decide +kernel
theorem dX9_haggle_46 : decode cX9_haggle 46 = .ok (.invokestatic 45, 3) := by decide +kernel
theorem dX9_haggle_49 : decode cX9_haggle 49 = .ok (.ifCond .eq 8, 3) := by decide +kernel
theorem dX9_haggle_52 : decode cX9_haggle 52 = .ok (.iload_n 1, 1) := by decide +kernel
theorem dX9_haggle_53 : decode cX9_haggle 53 = .ok (.iload_n 2, 1) := by decide +kernel
theorem dX9_haggle_54 : decode cX9_haggle 54 = .ok (.if_icmp .ne 6, 3) := by decide +kernel
theorem dX9_haggle_57 : decode cX9_haggle 57 = .ok (.bipush (-2), 2) := by decide +kernel
theorem dX9_haggle_59 : decode cX9_haggle 59 = .ok (.ireturn, 1) := by decide +kernel
theorem dX9_haggle_60 : decode cX9_haggle 60 = .ok (.aload_n 0, 1) := by decide +kernel
theorem dX9_haggle_61 : decode cX9_haggle 61 = .ok (.iload_n 2, 1) := by decide +kernel
theorem dX9_haggle_62 : decode cX9_haggle 62 = .ok (.iload_n 3, 1) := by decide +kernel
theorem dX9_haggle_63 : decode cX9_haggle 63 = .ok (.invokevirtual 166, 3) := by decide +kernel
theorem dX9_haggle_66 : decode cX9_haggle 66 = .ok (.ifCond .eq 14, 3) := by decide +kernel
theorem dX9_haggle_69 : decode cX9_haggle 69 = .ok (.aload_n 0, 1) := by decide +kernel
theorem dX9_haggle_70 : decode cX9_haggle 70 = .ok (.iload_n 1, 1) := by decide +kernel
theorem dX9_haggle_71 : decode cX9_haggle 71 = .ok (.iconst 2, 1) := by decide +kernel
theorem dX9_haggle_72 : decode cX9_haggle 72 = .ok (.invokevirtual 49, 3) := by decide +kernel
theorem dX9_haggle_75 : decode cX9_haggle 75 = .ok (.iload 4, 2) := by decide +kernel
theorem dX9_haggle_77 : decode cX9_haggle 77 = .ok (.if_icmp .ge 6, 3) := by decide +kernel
theorem dX9_haggle_80 : decode cX9_haggle 80 = .ok (.bipush (-4), 2) := by decide +kernel
theorem dX9_haggle_82 : decode cX9_haggle 82 = .ok (.ireturn, 1) := by decide +kernel
theorem dX9_haggle_83 : decode cX9_haggle 83 = .ok (.aload_n 0, 1) := by decide +kernel
theorem dX9_haggle_84 : decode cX9_haggle 84 = .ok (.getfield 7, 3) := by decide +kernel
theorem dX9_haggle_87 : decode cX9_haggle 87 = .ok (.bipush 8, 2) := by decide +kernel
theorem dX9_haggle_89 : decode cX9_haggle 89 = .ok (.iaload, 1) := by decide +kernel
theorem dX9_haggle_90 : decode cX9_haggle 90 = .ok (.bipush 10, 2) := by decide +kernel
theorem dX9_haggle_92 : decode cX9_haggle 92 = .ok (.if_icmp .ne 6, 3) := by decide +kernel
theorem dX9_haggle_95 : decode cX9_haggle 95 = .ok (.bipush (-3), 2) := by decide +kernel
theorem dX9_haggle_97 : decode cX9_haggle 97 = .ok (.ireturn, 1) := by decide +kernel
theorem dX9_haggle_98 : decode cX9_haggle 98 = .ok (.aload_n 0, 1) := by decide +kernel
theorem dX9_haggle_99 : decode cX9_haggle 99 = .ok (.invokevirtual 60, 3) := by decide +kernel
theorem dX9_haggle_102 : decode cX9_haggle 102 = .ok (.aload_n 0, 1) := by decide +kernel
theorem dX9_haggle_103 : decode cX9_haggle 103 = .ok (.iload_n 2, 1) := by decide +kernel
theorem dX9_haggle_104 : decode cX9_haggle 104 = .ok (.iload_n 3, 1) := by decide +kernel
theorem dX9_haggle_105 : decode cX9_haggle 105 = .ok (.invokevirtual 169, 3) := by decide +kernel
theorem dX9_haggle_108 : decode cX9_haggle 108 = .ok (.istore 6, 2) := by decide +kernel
theorem dX9_haggle_110 : decode cX9_haggle 110 = .ok (.iload 4, 2) := by decide +kernel
theorem dX9_haggle_112 : decode cX9_haggle 112 = .ok (.iload 6, 2) := by decide +kernel
theorem dX9_haggle_114 : decode cX9_haggle 114 = .ok (.if_icmp .lt 26, 3) := by decide +kernel
theorem dX9_haggle_117 : decode cX9_haggle 117 = .ok (.iload 4, 2) := by decide +kernel
theorem dX9_haggle_119 : decode cX9_haggle 119 = .ok (.iload 6, 2) := by decide +kernel
theorem dX9_haggle_121 : decode cX9_haggle 121 = .ok (.iadd, 1) := by decide +kernel
theorem dX9_haggle_122 : decode cX9_haggle 122 = .ok (.iconst 2, 1) := by decide +kernel
theorem dX9_haggle_123 : decode cX9_haggle 123 = .ok (.idiv, 1) := by decide +kernel
theorem dX9_haggle_124 : decode cX9_haggle 124 = .ok (.istore 7, 2) := by decide +kernel
theorem dX9_haggle_126 : decode cX9_haggle 126 = .ok (.aload_n 0, 1) := by decide +kernel
theorem dX9_haggle_127 : decode cX9_haggle 127 = .ok (.iload_n 1, 1) := by decide +kernel
theorem dX9_haggle_128 : decode cX9_haggle 128 = .ok (.iload_n 2, 1) := by decide +kernel
theorem dX9_haggle_129 : decode cX9_haggle 129 = .ok (.iload_n 3, 1) := by decide +kernel
theorem dX9_haggle_130 : decode cX9_haggle 130 = .ok (.iload 5, 2) := by decide +kernel
theorem dX9_haggle_132 : decode cX9_haggle 132 = .ok (.iload 7, 2) := by decide +kernel
theorem dX9_haggle_134 : decode cX9_haggle 134 = .ok (.invokevirtual 172, 3) := by decide +kernel
theorem dX9_haggle_137 : decode cX9_haggle 137 = .ok (.iload 7, 2) := by decide +kernel
theorem dX9_haggle_139 : decode cX9_haggle 139 = .ok (.ireturn, 1) := by decide +kernel
theorem dX9_haggle_140 : decode cX9_haggle 140 = .ok (.aload_n 0, 1) := by decide +kernel
theorem dX9_haggle_141 : decode cX9_haggle 141 = .ok (.iload_n 1, 1) := by decide +kernel
theorem dX9_haggle_142 : decode cX9_haggle 142 = .ok (.bipush 6, 2) := by decide +kernel
theorem dX9_haggle_144 : decode cX9_haggle 144 = .ok (.iconst 1, 1) := by decide +kernel
theorem dX9_haggle_145 : decode cX9_haggle 145 = .ok (.invokevirtual 101, 3) := by decide +kernel
theorem dX9_haggle_148 : decode cX9_haggle 148 = .ok (.aload_n 0, 1) := by decide +kernel
theorem dX9_haggle_149 : decode cX9_haggle 149 = .ok (.getfield 7, 3) := by decide +kernel
theorem dX9_haggle_152 : decode cX9_haggle 152 = .ok (.bipush 10, 2) := by decide +kernel
theorem dX9_haggle_154 : decode cX9_haggle 154 = .ok (.dup2, 1) := by decide +kernel
theorem dX9_haggle_155 : decode cX9_haggle 155 = .ok (.iaload, 1) := by decide +kernel
theorem dX9_haggle_156 : decode cX9_haggle 156 = .ok (.iconst 1, 1) := by decide +kernel
theorem dX9_haggle_157 : decode cX9_haggle 157 = .ok (.iadd, 1) := by decide +kernel
theorem dX9_haggle_158 : decode cX9_haggle 158 = .ok (.iastore, 1) := by decide +kernel
theorem dX9_haggle_159 : decode cX9_haggle 159 = .ok (.aload_n 0, 1) := by decide +kernel
theorem dX9_haggle_160 : decode cX9_haggle 160 = .ok (.iload_n 2, 1) := by decide +kernel
theorem dX9_haggle_161 : decode cX9_haggle 161 = .ok (.iconst 2, 1) := by decide +kernel
theorem dX9_haggle_162 : decode cX9_haggle 162 = .ok (.iload 4, 2) := by decide +kernel
theorem dX9_haggle_164 : decode cX9_haggle 164 = .ok (.imul, 1) := by decide +kernel
theorem dX9_haggle_165 : decode cX9_haggle 165 = .ok (.iload 6, 2) := by decide +kernel
theorem dX9_haggle_167 : decode cX9_haggle 167 = .ok (.if_icmp .lt 7, 3) := by decide +kernel
theorem dX9_haggle_170 : decode cX9_haggle 170 = .ok (.iconst (-1), 1) := by decide +kernel
theorem dX9_haggle_171 : decode cX9_haggle 171 = .ok (.goto 4, 3) := by decide +kernel
theorem dX9_haggle_174 : decode cX9_haggle 174 = .ok (.iconst 1, 1) := by decide +kernel
theorem dX9_haggle_175 : decode cX9_haggle 175 = .ok (.invokevirtual 163, 3) := by decide +kernel
theorem dX9_haggle_178 : decode cX9_haggle 178 = .ok (.iconst 0, 1) := by decide +kernel
theorem dX9_haggle_179 : decode cX9_haggle 179 = .ok (.ireturn, 1) := by decide +kernel
theorem dX9_undo_0 : decode cX9_undo 0 = .ok (.aload_n 0, 1) := by decide +kernel
theorem dX9_undo_1 : decode cX9_undo 1 = .ok (.getfield 37, 3) := by decide +kernel
theorem dX9_undo_4 : decode cX9_undo 4 = .ok (.ifCond .ne 6, 3) := by decide +kernel
theorem dX9_undo_7 : decode cX9_undo 7 = .ok (.bipush (-5), 2) := by decide +kernel
theorem dX9_undo_9 : decode cX9_undo 9 = .ok (.ireturn, 1) := by decide +kernel
theorem dX9_undo_10 : decode cX9_undo 10 = .ok (.aload_n 0, 1) := by decide +kernel
theorem dX9_undo_11 : decode cX9_undo 11 = .ok (.dup, 1) := by decide +kernel
theorem dX9_undo_12 : decode cX9_undo 12 = .ok (.getfield 37, 3) := by decide +kernel
theorem dX9_undo_15 : decode cX9_undo 15 = .ok (.iconst 1, 1) := by decide +kernel
theorem dX9_undo_16 : decode cX9_undo 16 = .ok (.isub, 1) := by decide +kernel
theorem dX9_undo_17 : decode cX9_undo 17 = .ok (.putfield 37, 3) := by decide +kernel
theorem dX9_undo_20 : decode cX9_undo 20 = .ok (.aload_n 0, 1) := by decide +kernel
theorem dX9_undo_21 : decode cX9_undo 21 = .ok (.getfield 19, 3) := by decide +kernel
theorem dX9_undo_24 : decode cX9_undo 24 = .ok (.aload_n 0, 1) := by decide +kernel
theorem dX9_undo_25 : decode cX9_undo 25 = .ok (.getfield 37, 3) := by decide +kernel
theorem dX9_undo_28 : decode cX9_undo 28 = .ok (.sipush 401, 3) := by decide +kernel
theorem dX9_undo_31 : decode cX9_undo 31 = .ok (.imul, 1) := by decide +kernel
theorem dX9_undo_32 : decode cX9_undo 32 = .ok (.aload_n 0, 1) := by decide +kernel
theorem dX9_undo_33 : decode cX9_undo 33 = .ok (.getfield 7, 3) := by decide +kernel
theorem dX9_undo_36 : decode cX9_undo 36 = .ok (.iconst 0, 1) := by decide +kernel
theorem dX9_undo_37 : decode cX9_undo 37 = .ok (.invokestatic 41, 3) := by decide +kernel
theorem dX9_undo_40 : decode cX9_undo 40 = .ok (.aload_n 0, 1) := by decide +kernel
theorem dX9_undo_41 : decode cX9_undo 41 = .ok (.getfield 37, 3) := by decide +kernel
theorem dX9_undo_44 : decode cX9_undo 44 = .ok (.ireturn, 1) := by decide +kernel
theorem dX9_keep_0 : decode cX9_keep 0 = .ok (.aload_n 0, 1) := by decide +kernel
theorem dX9_keep_1 : decode cX9_keep 1 = .ok (.getfield 7, 3) := by decide +kernel
theorem dX9_keep_4 : decode cX9_keep 4 = .ok (.iconst 0, 1) := by decide +kernel
theorem dX9_keep_5 : decode cX9_keep 5 = .ok (.aload_n 0, 1) := by decide +kernel
theorem dX9_keep_6 : decode cX9_keep 6 = .ok (.getfield 16, 3) := by decide +kernel
theorem dX9_keep_9 : decode cX9_keep 9 = .ok (.iconst 0, 1) := by decide +kernel
theorem dX9_keep_10 : decode cX9_keep 10 = .ok (.invokestatic 41, 3) := by decide +kernel
theorem dX9_keep_13 : decode cX9_keep 13 = .ok (.aload_n 0, 1) := by decide +kernel
theorem dX9_keep_14 : decode cX9_keep 14 = .ok (.iconst 1, 1) := by decide +kernel
theorem dX9_keep_15 : decode cX9_keep 15 = .ok (.putfield 176, 3) := by decide +kernel
theorem dX9_keep_18 : decode cX9_keep 18 = .ok (.aload_n 0, 1) := by decide +kernel
theorem dX9_keep_19 : decode cX9_keep 19 = .ok (.getfield 7, 3) := by decide +kernel
theorem dX9_keep_22 : decode cX9_keep 22 = .ok (.iconst 0, 1) := by decide +kernel
theorem dX9_keep_23 : decode cX9_keep 23 = .ok (.iaload, 1) := by decide +kernel
theorem dX9_keep_24 : decode cX9_keep 24 = .ok (.ireturn, 1) := by decide +kernel
theorem dX9_restore_0 : decode cX9_restore 0 = .ok (.aload_n 0, 1) := by decide +kernel
theorem dX9_restore_1 : decode cX9_restore 1 = .ok (.getfield 176, 3) := by decide +kernel
theorem dX9_restore_4 : decode cX9_restore 4 = .ok (.ifCond .ne 6, 3) := by decide +kernel
theorem dX9_restore_7 : decode cX9_restore 7 = .ok (.bipush (-5), 2) := by decide +kernel
theorem dX9_restore_9 : decode cX9_restore 9 = .ok (.ireturn, 1) := by decide +kernel
theorem dX9_restore_10 : decode cX9_restore 10 = .ok (.aload_n 0, 1) := by decide +kernel
theorem dX9_restore_11 : decode cX9_restore 11 = .ok (.invokevirtual 60, 3) := by decide +kernel
theorem dX9_restore_14 : decode cX9_restore 14 = .ok (.aload_n 0, 1) := by decide +kernel
theorem dX9_restore_15 : decode cX9_restore 15 = .ok (.getfield 16, 3) := by decide +kernel
theorem dX9_restore_18 : decode cX9_restore 18 = .ok (.iconst 0, 1) := by decide +kernel
theorem dX9_restore_19 : decode cX9_restore 19 = .ok (.aload_n 0, 1) := by decide +kernel
theorem dX9_restore_20 : decode cX9_restore 20 = .ok (.getfield 7, 3) := by decide +kernel
theorem dX9_restore_23 : decode cX9_restore 23 = .ok (.iconst 0, 1) := by decide +kernel
theorem dX9_restore_24 : decode cX9_restore 24 = .ok (.invokestatic 41, 3) := by decide +kernel
theorem dX9_restore_27 : decode cX9_restore 27 = .ok (.aload_n 0, 1) := by decide +kernel
theorem dX9_restore_28 : decode cX9_restore 28 = .ok (.getfield 7, 3) := by decide +kernel
theorem dX9_restore_31 : decode cX9_restore 31 = .ok (.iconst 0, 1) := by decide +kernel
theorem dX9_restore_32 : decode cX9_restore 32 = .ok (.iaload, 1) := by decide +kernel
theorem dX9_restore_33 : decode cX9_restore 33 = .ok (.ireturn, 1) := by decide +kernel
theorem dX9_house_0 : decode cX9_house 0 = .ok (.aload_n 0, 1) := by decide +kernel
theorem dX9_house_1 : decode cX9_house 1 = .ok (.iload_n 1, 1) := by decide +kernel
theorem dX9_house_2 : decode cX9_house 2 = .ok (.invokevirtual 154, 3) := by decide +kernel
theorem dX9_house_5 : decode cX9_house 5 = .ok (.ifCond .ne 5, 3) := by decide +kernel
theorem dX9_house_8 : decode cX9_house 8 = .ok (.iconst (-1), 1) := by decide +kernel
theorem dX9_house_9 : decode cX9_house 9 = .ok (.ireturn, 1) := by decide +kernel
theorem dX9_house_10 : decode cX9_house 10 = .ok (.iload_n 2, 1) := by decide +kernel
theorem dX9_house_11 : decode cX9_house 11 = .ok (.iconst 0, 1) := by decide +kernel
theorem dX9_house_12 : decode cX9_house 12 = .ok (.bipush 9, 2) := by decide +kernel
theorem dX9_house_14 : decode cX9_house 14 = .ok (.invokestatic 45, 3) := by decide +kernel
theorem dX9_house_17 : decode cX9_house 17 = .ok (.ifCond .ne 8, 3) := by decide +kernel
theorem dX9_house_20 : decode cX9_house 20 = .ok (.bipush (-2), 2) := by decide +kernel
theorem dX9_house_22 : decode cX9_house 22 = .ok (.goto 23, 3) := by decide +kernel
theorem dX9_house_25 : decode cX9_house 25 = .ok (.iload_n 2, 1) := by decide +kernel
theorem dX9_house_26 : decode cX9_house 26 = .ok (.ifCond .ne 11, 3) := by decide +kernel
theorem dX9_house_29 : decode cX9_house 29 = .ok (.aload_n 0, 1) := by decide +kernel
theorem dX9_house_30 : decode cX9_house 30 = .ok (.iload_n 1, 1) := by decide +kernel
theorem dX9_house_31 : decode cX9_house 31 = .ok (.invokevirtual 91, 3) := by decide +kernel
theorem dX9_house_34 : decode cX9_house 34 = .ok (.goto 11, 3) := by decide +kernel
theorem dX9_house_37 : decode cX9_house 37 = .ok (.aload_n 0, 1) := by decide +kernel
theorem dX9_house_38 : decode cX9_house 38 = .ok (.iload_n 1, 1) := by decide +kernel
theorem dX9_house_39 : decode cX9_house 39 = .ok (.iload_n 2, 1) := by decide +kernel
theorem dX9_house_40 : decode cX9_house 40 = .ok (.iconst 1, 1) := by decide +kernel
theorem dX9_house_41 : decode cX9_house 41 = .ok (.isub, 1) := by decide +kernel
theorem dX9_house_42 : decode cX9_house 42 = .ok (.invokevirtual 49, 3) := by decide +kernel
theorem dX9_house_45 : decode cX9_house 45 = .ok (.ireturn, 1) := by decide +kernel
theorem dX9_washer_0 : decode cX9_washer 0 = .ok (.aload_n 0, 1) := by decide +kernel
theorem dX9_washer_1 : decode cX9_washer 1 = .ok (.iload_n 1, 1) := by decide +kernel
theorem dX9_washer_2 : decode cX9_washer 2 = .ok (.invokevirtual 154, 3) := by decide +kernel
theorem dX9_washer_5 : decode cX9_washer 5 = .ok (.ifCond .ne 5, 3) := by decide +kernel
theorem dX9_washer_8 : decode cX9_washer 8 = .ok (.iconst (-1), 1) := by decide +kernel
theorem dX9_washer_9 : decode cX9_washer 9 = .ok (.ireturn, 1) := by decide +kernel
theorem dX9_washer_10 : decode cX9_washer 10 = .ok (.aload_n 0, 1) := by decide +kernel
theorem dX9_washer_11 : decode cX9_washer 11 = .ok (.iload_n 1, 1) := by decide +kernel
theorem dX9_washer_12 : decode cX9_washer 12 = .ok (.bipush 9, 2) := by decide +kernel
theorem dX9_washer_14 : decode cX9_washer 14 = .ok (.invokevirtual 49, 3) := by decide +kernel
theorem dX9_washer_17 : decode cX9_washer 17 = .ok (.ifCond .ne 7, 3) := by decide +kernel
theorem dX9_washer_20 : decode cX9_washer 20 = .ok (.iconst 1, 1) := by decide +kernel
theorem dX9_washer_21 : decode cX9_washer 21 = .ok (.goto 4, 3) := by decide +kernel
theorem dX9_washer_24 : decode cX9_washer 24 = .ok (.iconst 0, 1) := by decide +kernel
theorem dX9_washer_25 : decode cX9_washer 25 = .ok (.istore_n 3, 1) := by decide +kernel
theorem dX9_washer_26 : decode cX9_washer 26 = .ok (.iload_n 2, 1) := by decide +kernel
theorem dX9_washer_27 : decode cX9_washer 27 = .ok (.tableswitch 137 0 8 #[49, 57, 74, 82, 88, 96, 104, 121, 129], 49) := by decide +kernel
theorem dX9_washer_76 : decode cX9_washer 76 = .ok (.aload_n 0, 1) := by decide +kernel
theorem dX9_washer_77 : decode cX9_washer 77 = .ok (.iload_n 1, 1) := by decide +kernel
theorem dX9_washer_78 : decode cX9_washer 78 = .ok (.bipush 9, 2) := by decide +kernel
theorem dX9_washer_80 : decode cX9_washer 80 = .ok (.invokevirtual 49, 3) := by decide +kernel
theorem dX9_washer_83 : decode cX9_washer 83 = .ok (.ireturn, 1) := by decide +kernel
theorem dX9_washer_84 : decode cX9_washer 84 = .ok (.iload_n 3, 1) := by decide +kernel
theorem dX9_washer_85 : decode cX9_washer 85 = .ok (.ifCond .eq 8, 3) := by decide +kernel
theorem dX9_washer_88 : decode cX9_washer 88 = .ok (.bipush (-5), 2) := by decide +kernel
theorem dX9_washer_90 : decode cX9_washer 90 = .ok (.goto 10, 3) := by decide +kernel
theorem dX9_washer_93 : decode cX9_washer 93 = .ok (.aload_n 0, 1) := by decide +kernel
theorem dX9_washer_94 : decode cX9_washer 94 = .ok (.iload_n 1, 1) := by decide +kernel
theorem dX9_washer_95 : decode cX9_washer 95 = .ok (.bipush 10, 2) := by decide +kernel
theorem dX9_washer_97 : decode cX9_washer 97 = .ok (.invokevirtual 49, 3) := by decide +kernel
theorem dX9_washer_100 : decode cX9_washer 100 = .ok (.ireturn, 1) := by decide +kernel
theorem dX9_washer_101 : decode cX9_washer 101 = .ok (.aload_n 0, 1) := by decide +kernel
theorem dX9_washer_102 : decode cX9_washer 102 = .ok (.iload_n 1, 1) := by decide +kernel
theorem dX9_washer_103 : decode cX9_washer 103 = .ok (.bipush 11, 2) := by decide +kernel
theorem dX9_washer_105 : decode cX9_washer 105 = .ok (.invokevirtual 49, 3) := by decide +kernel
theorem dX9_washer_108 : decode cX9_washer 108 = .ok (.ireturn, 1) := by decide +kernel
theorem dX9_washer_109 : decode cX9_washer 109 = .ok (.aload_n 0, 1) := by decide +kernel
theorem dX9_washer_110 : decode cX9_washer 110 = .ok (.iload_n 1, 1) := by decide +kernel
theorem dX9_washer_111 : decode cX9_washer 111 = .ok (.invokevirtual 68, 3) := by decide +kernel
theorem dX9_washer_114 : decode cX9_washer 114 = .ok (.ireturn, 1) := by decide +kernel
theorem dX9_washer_115 : decode cX9_washer 115 = .ok (.aload_n 0, 1) := by decide +kernel
theorem dX9_washer_116 : decode cX9_washer 116 = .ok (.iload_n 1, 1) := by decide +kernel
theorem dX9_washer_117 : decode cX9_washer 117 = .ok (.bipush 12, 2) := by decide +kernel
theorem dX9_washer_119 : decode cX9_washer 119 = .ok (.invokevirtual 49, 3) := by decide +kernel
theorem dX9_washer_122 : decode cX9_washer 122 = .ok (.ireturn, 1) := by decide +kernel
theorem dX9_washer_123 : decode cX9_washer 123 = .ok (.aload_n 0, 1) := by decide +kernel
theorem dX9_washer_124 : decode cX9_washer 124 = .ok (.iload_n 1, 1) := by decide +kernel
theorem dX9_washer_125 : decode cX9_washer 125 = .ok (.bipush 13, 2) := by decide +kernel
theorem dX9_washer_127 : decode cX9_washer 127 = .ok (.invokevirtual 49, 3) := by decide +kernel
theorem dX9_washer_130 : decode cX9_washer 130 = .ok (.ireturn, 1) := by decide +kernel
theorem dX9_washer_131 : decode cX9_washer 131 = .ok (.iload_n 3, 1) := by decide +kernel
theorem dX9_washer_132 : decode cX9_washer 132 = .ok (.ifCond .eq 8, 3) := by decide +kernel
theorem dX9_washer_135 : decode cX9_washer 135 = .ok (.bipush (-5), 2) := by decide +kernel
theorem dX9_washer_137 : decode cX9_washer 137 = .ok (.goto 10, 3) := by decide +kernel
theorem dX9_washer_140 : decode cX9_washer 140 = .ok (.aload_n 0, 1) := by decide +kernel
theorem dX9_washer_141 : decode cX9_washer 141 = .ok (.iload_n 1, 1) := by decide +kernel
theorem dX9_washer_142 : decode cX9_washer 142 = .ok (.bipush 14, 2) := by decide +kernel
theorem dX9_washer_144 : decode cX9_washer 144 = .ok (.invokevirtual 49, 3) := by decide +kernel
theorem dX9_washer_147 : decode cX9_washer 147 = .ok (.ireturn, 1) := by decide +kernel
theorem dX9_washer_148 : decode cX9_washer 148 = .ok (.aload_n 0, 1) := by decide +kernel
theorem dX9_washer_149 : decode cX9_washer 149 = .ok (.iload_n 1, 1) := by decide +kernel
theorem dX9_washer_150 : decode cX9_washer 150 = .ok (.bipush 15, 2) := by decide +kernel
theorem dX9_washer_152 : decode cX9_washer 152 = .ok (.invokevirtual 49, 3) := by decide +kernel
theorem dX9_washer_155 : decode cX9_washer 155 = .ok (.ireturn, 1) := by decide +kernel
theorem dX9_washer_156 : decode cX9_washer 156 = .ok (.aload_n 0, 1) := by decide +kernel
theorem dX9_washer_157 : decode cX9_washer 157 = .ok (.iload_n 1, 1) := by decide +kernel
theorem dX9_washer_158 : decode cX9_washer 158 = .ok (.bipush 17, 2) := by decide +kernel
theorem dX9_washer_160 : decode cX9_washer 160 = .ok (.invokevirtual 49, 3) := by decide +kernel
theorem dX9_washer_163 : decode cX9_washer 163 = .ok (.ireturn, 1) := by decide +kernel
theorem dX9_washer_164 : decode cX9_washer 164 = .ok (.bipush (-2), 2) := by decide +kernel
theorem dX9_washer_166 : decode cX9_washer 166 = .ok (.ireturn, 1) := by decide +kernel
theorem dX9_phase_0 : decode cX9_phase 0 = .ok (.aload_n 0, 1) := by decide +kernel
theorem dX9_phase_1 : decode cX9_phase 1 = .ok (.iload_n 1, 1) := by decide +kernel
theorem dX9_phase_2 : decode cX9_phase 2 = .ok (.invokevirtual 154, 3) := by decide +kernel
theorem dX9_phase_5 : decode cX9_phase 5 = .ok (.ifCond .eq 20, 3) := by decide +kernel
theorem dX9_phase_8 : decode cX9_phase 8 = .ok (.iload_n 2, 1) := by decide +kernel
theorem dX9_phase_9 : decode cX9_phase 9 = .ok (.iconst 0, 1) := by decide +kernel
theorem dX9_phase_10 : decode cX9_phase 10 = .ok (.aload_n 0, 1) := by decide +kernel
theorem dX9_phase_11 : decode cX9_phase 11 = .ok (.iload_n 1, 1) := by decide +kernel
theorem dX9_phase_12 : decode cX9_phase 12 = .ok (.bipush 15, 2) := by decide +kernel
theorem dX9_phase_14 : decode cX9_phase 14 = .ok (.invokevirtual 49, 3) := by decide +kernel
theorem dX9_phase_17 : decode cX9_phase 17 = .ok (.iconst 1, 1) := by decide +kernel
theorem dX9_phase_18 : decode cX9_phase 18 = .ok (.isub, 1) := by decide +kernel
theorem dX9_phase_19 : decode cX9_phase 19 = .ok (.invokestatic 45, 3) := by decide +kernel
theorem dX9_phase_22 : decode cX9_phase 22 = .ok (.ifCond .ne 5, 3) := by decide +kernel
theorem dX9_phase_25 : decode cX9_phase 25 = .ok (.iconst (-1), 1) := by decide +kernel
theorem dX9_phase_26 : decode cX9_phase 26 = .ok (.ireturn, 1) := by decide +kernel
theorem dX9_phase_27 : decode cX9_phase 27 = .ok (.iload_n 3, 1) := by decide +kernel
theorem dX9_phase_28 : decode cX9_phase 28 = .ok (.ifCond .ne 15, 3) := by decide +kernel
theorem dX9_phase_31 : decode cX9_phase 31 = .ok (.aload_n 0, 1) := by decide +kernel
theorem dX9_phase_32 : decode cX9_phase 32 = .ok (.iload_n 1, 1) := by decide +kernel
theorem dX9_phase_33 : decode cX9_phase 33 = .ok (.bipush 18, 2) := by decide +kernel
theorem dX9_phase_35 : decode cX9_phase 35 = .ok (.iload_n 2, 1) := by decide +kernel
theorem dX9_phase_36 : decode cX9_phase 36 = .ok (.iadd, 1) := by decide +kernel
theorem dX9_phase_37 : decode cX9_phase 37 = .ok (.invokevirtual 49, 3) := by decide +kernel
theorem dX9_phase_40 : decode cX9_phase 40 = .ok (.goto 22, 3) := by decide +kernel
theorem dX9_phase_43 : decode cX9_phase 43 = .ok (.iload_n 3, 1) := by decide +kernel
theorem dX9_phase_44 : decode cX9_phase 44 = .ok (.iconst 1, 1) := by decide +kernel
theorem dX9_phase_45 : decode cX9_phase 45 = .ok (.if_icmp .ne 15, 3) := by decide +kernel
theorem dX9_phase_48 : decode cX9_phase 48 = .ok (.aload_n 0, 1) := by decide +kernel
theorem dX9_phase_49 : decode cX9_phase 49 = .ok (.iload_n 1, 1) := by decide +kernel
theorem dX9_phase_50 : decode cX9_phase 50 = .ok (.bipush 30, 2) := by decide +kernel
theorem dX9_phase_52 : decode cX9_phase 52 = .ok (.iload_n 2, 1) := by decide +kernel
theorem dX9_phase_53 : decode cX9_phase 53 = .ok (.iadd, 1) := by decide +kernel
theorem dX9_phase_54 : decode cX9_phase 54 = .ok (.invokevirtual 49, 3) := by decide +kernel
theorem dX9_phase_57 : decode cX9_phase 57 = .ok (.goto 5, 3) := by decide +kernel
theorem dX9_phase_60 : decode cX9_phase 60 = .ok (.bipush (-2), 2) := by decide +kernel
theorem dX9_phase_62 : decode cX9_phase 62 = .ok (.ireturn, 1) := by decide +kernel
theorem dX9_boiler_0 : decode cX9_boiler 0 = .ok (.iconst 0, 1) := by decide +kernel
theorem dX9_boiler_1 : decode cX9_boiler 1 = .ok (.istore_n 2, 1) := by decide +kernel
theorem dX9_boiler_2 : decode cX9_boiler 2 = .ok (.iconst 0, 1) := by decide +kernel
theorem dX9_boiler_3 : decode cX9_boiler 3 = .ok (.istore_n 3, 1) := by decide +kernel
theorem dX9_boiler_4 : decode cX9_boiler 4 = .ok (.iload_n 3, 1) := by decide +kernel
theorem dX9_boiler_5 : decode cX9_boiler 5 = .ok (.aload_n 0, 1) := by decide +kernel
theorem dX9_boiler_6 : decode cX9_boiler 6 = .ok (.getfield 7, 3) := by decide +kernel
theorem dX9_boiler_9 : decode cX9_boiler 9 = .ok (.iconst 2, 1) := by decide +kernel
theorem dX9_boiler_10 : decode cX9_boiler 10 = .ok (.iaload, 1) := by decide +kernel
theorem dX9_boiler_11 : decode cX9_boiler 11 = .ok (.if_icmp .ge 17, 3) := by decide +kernel
theorem dX9_boiler_14 : decode cX9_boiler 14 = .ok (.iload_n 2, 1) := by decide +kernel
theorem dX9_boiler_15 : decode cX9_boiler 15 = .ok (.aload_n 0, 1) := by decide +kernel
theorem dX9_boiler_16 : decode cX9_boiler 16 = .ok (.iload_n 3, 1) := by decide +kernel
theorem dX9_boiler_17 : decode cX9_boiler 17 = .ok (.invokevirtual 94, 3) := by decide +kernel
theorem dX9_boiler_20 : decode cX9_boiler 20 = .ok (.iadd, 1) := by decide +kernel
theorem dX9_boiler_21 : decode cX9_boiler 21 = .ok (.istore_n 2, 1) := by decide +kernel
theorem dX9_boiler_22 : decode cX9_boiler 22 = .ok (.iinc 3 1, 3) := by decide +kernel
theorem dX9_boiler_25 : decode cX9_boiler 25 = .ok (.goto (-21), 3) := by decide +kernel
theorem dX9_boiler_28 : decode cX9_boiler 28 = .ok (.iload_n 1, 1) := by decide +kernel
theorem dX9_boiler_29 : decode cX9_boiler 29 = .ok (.tableswitch 92 0 7 #[47, 55, 55, 55, 66, 74, 82, 84], 47) := by decide +kernel
theorem dX9_boiler_76 : decode cX9_boiler 76 = .ok (.aload_n 0, 1) := by decide +kernel
theorem dX9_boiler_77 : decode cX9_boiler 77 = .ok (.getfield 7, 3) := by decide +kernel
theorem dX9_boiler_80 : decode cX9_boiler 80 = .ok (.bipush 7, 2) := by decide +kernel
theorem dX9_boiler_82 : decode cX9_boiler 82 = .ok (.iaload, 1) := by decide +kernel
theorem dX9_boiler_83 : decode cX9_boiler 83 = .ok (.ireturn, 1) := by decide +kernel
theorem dX9_boiler_84 : decode cX9_boiler 84 = .ok (.aload_n 0, 1) := by decide +kernel
theorem dX9_boiler_85 : decode cX9_boiler 85 = .ok (.getfield 7, 3) := by decide +kernel
theorem dX9_boiler_88 : decode cX9_boiler 88 = .ok (.iconst 3, 1) := by decide +kernel
theorem dX9_boiler_89 : decode cX9_boiler 89 = .ok (.iload_n 1, 1) := by decide +kernel
theorem dX9_boiler_90 : decode cX9_boiler 90 = .ok (.iadd, 1) := by decide +kernel
theorem dX9_boiler_91 : decode cX9_boiler 91 = .ok (.iconst 1, 1) := by decide +kernel
theorem dX9_boiler_92 : decode cX9_boiler 92 = .ok (.isub, 1) := by decide +kernel
theorem dX9_boiler_93 : decode cX9_boiler 93 = .ok (.iaload, 1) := by decide +kernel
theorem dX9_boiler_94 : decode cX9_boiler 94 = .ok (.ireturn, 1) := by decide +kernel
theorem dX9_boiler_95 : decode cX9_boiler 95 = .ok (.aload_n 0, 1) := by decide +kernel
theorem dX9_boiler_96 : decode cX9_boiler 96 = .ok (.getfield 7, 3) := by decide +kernel
theorem dX9_boiler_99 : decode cX9_boiler 99 = .ok (.bipush 13, 2) := by decide +kernel
theorem dX9_boiler_101 : decode cX9_boiler 101 = .ok (.iaload, 1) := by decide +kernel
theorem dX9_boiler_102 : decode cX9_boiler 102 = .ok (.ireturn, 1) := by decide +kernel
theorem dX9_boiler_103 : decode cX9_boiler 103 = .ok (.aload_n 0, 1) := by decide +kernel
theorem dX9_boiler_104 : decode cX9_boiler 104 = .ok (.getfield 7, 3) := by decide +kernel
theorem dX9_boiler_107 : decode cX9_boiler 107 = .ok (.bipush 14, 2) := by decide +kernel
theorem dX9_boiler_109 : decode cX9_boiler 109 = .ok (.iaload, 1) := by decide +kernel
theorem dX9_boiler_110 : decode cX9_boiler 110 = .ok (.ireturn, 1) := by decide +kernel
theorem dX9_boiler_111 : decode cX9_boiler 111 = .ok (.iload_n 2, 1) := by decide +kernel
theorem dX9_boiler_112 : decode cX9_boiler 112 = .ok (.ireturn, 1) := by decide +kernel
theorem dX9_boiler_113 : decode cX9_boiler 113 = .ok (.aload_n 0, 1) := by decide +kernel
theorem dX9_boiler_114 : decode cX9_boiler 114 = .ok (.getfield 7, 3) := by decide +kernel
theorem dX9_boiler_117 : decode cX9_boiler 117 = .ok (.bipush 6, 2) := by decide +kernel
theorem dX9_boiler_119 : decode cX9_boiler 119 = .ok (.iaload, 1) := by decide +kernel
theorem dX9_boiler_120 : decode cX9_boiler 120 = .ok (.ireturn, 1) := by decide +kernel
theorem dX9_boiler_121 : decode cX9_boiler 121 = .ok (.bipush (-2), 2) := by decide +kernel
theorem dX9_boiler_123 : decode cX9_boiler 123 = .ok (.ireturn, 1) := by decide +kernel
theorem dX9_heatNext_0 : decode cX9_heatNext 0 = .ok (.aload_n 0, 1) := by decide +kernel
theorem dX9_heatNext_1 : decode cX9_heatNext 1 = .ok (.iload_n 1, 1) := by decide +kernel
theorem dX9_heatNext_2 : decode cX9_heatNext 2 = .ok (.invokevirtual 154, 3) := by decide +kernel
theorem dX9_heatNext_5 : decode cX9_heatNext 5 = .ok (.ifCond .ne 5, 3) := by decide +kernel
theorem dX9_heatNext_8 : decode cX9_heatNext 8 = .ok (.iconst (-1), 1) := by decide +kernel
theorem dX9_heatNext_9 : decode cX9_heatNext 9 = .ok (.ireturn, 1) := by decide +kernel
theorem dX9_heatNext_10 : decode cX9_heatNext 10 = .ok (.aload_n 0, 1) := by decide +kernel
theorem dX9_heatNext_11 : decode cX9_heatNext 11 = .ok (.getfield 7, 3) := by decide +kernel
theorem dX9_heatNext_14 : decode cX9_heatNext 14 = .ok (.iconst 1, 1) := by decide +kernel
theorem dX9_heatNext_15 : decode cX9_heatNext 15 = .ok (.iaload, 1) := by decide +kernel
theorem dX9_heatNext_16 : decode cX9_heatNext 16 = .ok (.ifCond .ne 5, 3) := by decide +kernel
theorem dX9_heatNext_19 : decode cX9_heatNext 19 = .ok (.iconst 0, 1) := by decide +kernel
theorem dX9_heatNext_20 : decode cX9_heatNext 20 = .ok (.ireturn, 1) := by decide +kernel
theorem dX9_heatNext_21 : decode cX9_heatNext 21 = .ok (.aload_n 0, 1) := by decide +kernel
theorem dX9_heatNext_22 : decode cX9_heatNext 22 = .ok (.getfield 7, 3) := by decide +kernel
theorem dX9_heatNext_25 : decode cX9_heatNext 25 = .ok (.iconst 0, 1) := by decide +kernel
theorem dX9_heatNext_26 : decode cX9_heatNext 26 = .ok (.aload_n 0, 1) := by decide +kernel
theorem dX9_heatNext_27 : decode cX9_heatNext 27 = .ok (.getfield 13, 3) := by decide +kernel
theorem dX9_heatNext_30 : decode cX9_heatNext 30 = .ok (.iconst 0, 1) := by decide +kernel
theorem dX9_heatNext_31 : decode cX9_heatNext 31 = .ok (.invokestatic 41, 3) := by decide +kernel
theorem dX9_heatNext_34 : decode cX9_heatNext 34 = .ok (.aload_n 0, 1) := by decide +kernel
theorem dX9_heatNext_35 : decode cX9_heatNext 35 = .ok (.invokevirtual 118, 3) := by decide +kernel
theorem dX9_heatNext_38 : decode cX9_heatNext 38 = .ok (.aload_n 0, 1) := by decide +kernel
theorem dX9_heatNext_39 : decode cX9_heatNext 39 = .ok (.aload_n 0, 1) := by decide +kernel
theorem dX9_heatNext_40 : decode cX9_heatNext 40 = .ok (.invokevirtual 121, 3) := by decide +kernel
theorem dX9_heatNext_43 : decode cX9_heatNext 43 = .ok (.invokevirtual 124, 3) := by decide +kernel
theorem dX9_heatNext_46 : decode cX9_heatNext 46 = .ok (.pop, 1) := by decide +kernel
theorem dX9_heatNext_47 : decode cX9_heatNext 47 = .ok (.aload_n 0, 1) := by decide +kernel
theorem dX9_heatNext_48 : decode cX9_heatNext 48 = .ok (.getfield 13, 3) := by decide +kernel
theorem dX9_heatNext_51 : decode cX9_heatNext 51 = .ok (.iconst 0, 1) := by decide +kernel
theorem dX9_heatNext_52 : decode cX9_heatNext 52 = .ok (.aload_n 0, 1) := by decide +kernel
theorem dX9_heatNext_53 : decode cX9_heatNext 53 = .ok (.getfield 7, 3) := by decide +kernel
theorem dX9_heatNext_56 : decode cX9_heatNext 56 = .ok (.iconst 0, 1) := by decide +kernel
theorem dX9_heatNext_57 : decode cX9_heatNext 57 = .ok (.invokestatic 41, 3) := by decide +kernel
theorem dX9_heatNext_60 : decode cX9_heatNext 60 = .ok (.aload_n 0, 1) := by decide +kernel
theorem dX9_heatNext_61 : decode cX9_heatNext 61 = .ok (.getfield 28, 3) := by decide +kernel
theorem dX9_heatNext_64 : decode cX9_heatNext 64 = .ok (.iload_n 1, 1) := by decide +kernel
theorem dX9_heatNext_65 : decode cX9_heatNext 65 = .ok (.iaload, 1) := by decide +kernel
theorem dX9_heatNext_66 : decode cX9_heatNext 66 = .ok (.ireturn, 1) := by decide +kernel
theorem dX9_lease_0 : decode cX9_lease 0 = .ok (.iload_n 1, 1) := by decide +kernel
theorem dX9_lease_1 : decode cX9_lease 1 = .ok (.iconst 0, 1) := by decide +kernel
theorem dX9_lease_2 : decode cX9_lease 2 = .ok (.aload_n 0, 1) := by decide +kernel
theorem dX9_lease_3 : decode cX9_lease 3 = .ok (.getfield 7, 3) := by decide +kernel
theorem dX9_lease_6 : decode cX9_lease 6 = .ok (.bipush 8, 2) := by decide +kernel
theorem dX9_lease_8 : decode cX9_lease 8 = .ok (.iaload, 1) := by decide +kernel
theorem dX9_lease_9 : decode cX9_lease 9 = .ok (.iconst 1, 1) := by decide +kernel
theorem dX9_lease_10 : decode cX9_lease 10 = .ok (.isub, 1) := by decide +kernel
theorem dX9_lease_11 : decode cX9_lease 11 = .ok (.invokestatic 45, 3) := by decide +kernel
theorem dX9_lease_14 : decode cX9_lease 14 = .ok (.ifCond .ne 7, 3) := by decide +kernel
theorem dX9_lease_17 : decode cX9_lease 17 = .ok (.iconst (-1), 1) := by decide +kernel
theorem dX9_lease_18 : decode cX9_lease 18 = .ok (.goto 23, 3) := by decide +kernel
theorem dX9_lease_21 : decode cX9_lease 21 = .ok (.iload_n 2, 1) := by decide +kernel
theorem dX9_lease_22 : decode cX9_lease 22 = .ok (.iconst 0, 1) := by decide +kernel
theorem dX9_lease_23 : decode cX9_lease 23 = .ok (.iconst 4, 1) := by decide +kernel
theorem dX9_lease_24 : decode cX9_lease 24 = .ok (.invokestatic 45, 3) := by decide +kernel
theorem dX9_lease_27 : decode cX9_lease 27 = .ok (.ifCond .eq 12, 3) := by decide +kernel
theorem dX9_lease_30 : decode cX9_lease 30 = .ok (.aload_n 0, 1) := by decide +kernel
theorem dX9_lease_31 : decode cX9_lease 31 = .ok (.iload_n 1, 1) := by decide +kernel
theorem dX9_lease_32 : decode cX9_lease 32 = .ok (.iload_n 2, 1) := by decide +kernel
theorem dX9_lease_33 : decode cX9_lease 33 = .ok (.invokevirtual 53, 3) := by decide +kernel
theorem dX9_lease_36 : decode cX9_lease 36 = .ok (.goto 5, 3) := by decide +kernel
theorem dX9_lease_39 : decode cX9_lease 39 = .ok (.bipush (-2), 2) := by decide +kernel
theorem dX9_lease_41 : decode cX9_lease 41 = .ok (.ireturn, 1) := by decide +kernel
theorem dX9_ask_0 : decode cX9_ask 0 = .ok (.aload_n 0, 1) := by decide +kernel
theorem dX9_ask_1 : decode cX9_ask 1 = .ok (.iload_n 1, 1) := by decide +kernel
theorem dX9_ask_2 : decode cX9_ask 2 = .ok (.invokevirtual 154, 3) := by decide +kernel
theorem dX9_ask_5 : decode cX9_ask 5 = .ok (.ifCond .ne 5, 3) := by decide +kernel
theorem dX9_ask_8 : decode cX9_ask 8 = .ok (.iconst (-1), 1) := by decide +kernel
theorem dX9_ask_9 : decode cX9_ask 9 = .ok (.ireturn, 1) := by decide +kernel
theorem dX9_ask_10 : decode cX9_ask 10 = .ok (.iload_n 2, 1) := by decide +kernel
theorem dX9_ask_11 : decode cX9_ask 11 = .ok (.iconst 1, 1) := by decide +kernel
theorem dX9_ask_12 : decode cX9_ask 12 = .ok (.bipush 20, 2) := by decide +kernel
theorem dX9_ask_14 : decode cX9_ask 14 = .ok (.invokestatic 45, 3) := by decide +kernel
theorem dX9_ask_17 : decode cX9_ask 17 = .ok (.ifCond .ne 8, 3) := by decide +kernel
theorem dX9_ask_20 : decode cX9_ask 20 = .ok (.bipush (-2), 2) := by decide +kernel
theorem dX9_ask_22 : decode cX9_ask 22 = .ok (.goto 23, 3) := by decide +kernel
theorem dX9_ask_25 : decode cX9_ask 25 = .ok (.aload_n 0, 1) := by decide +kernel
theorem dX9_ask_26 : decode cX9_ask 26 = .ok (.iload_n 1, 1) := by decide +kernel
theorem dX9_ask_27 : decode cX9_ask 27 = .ok (.iload_n 2, 1) := by decide +kernel
theorem dX9_ask_28 : decode cX9_ask 28 = .ok (.invokevirtual 166, 3) := by decide +kernel
theorem dX9_ask_31 : decode cX9_ask 31 = .ok (.ifCond .ne 8, 3) := by decide +kernel
theorem dX9_ask_34 : decode cX9_ask 34 = .ok (.bipush (-4), 2) := by decide +kernel
theorem dX9_ask_36 : decode cX9_ask 36 = .ok (.goto 9, 3) := by decide +kernel
theorem dX9_ask_39 : decode cX9_ask 39 = .ok (.aload_n 0, 1) := by decide +kernel
theorem dX9_ask_40 : decode cX9_ask 40 = .ok (.iload_n 1, 1) := by decide +kernel
theorem dX9_ask_41 : decode cX9_ask 41 = .ok (.iload_n 2, 1) := by decide +kernel
theorem dX9_ask_42 : decode cX9_ask 42 = .ok (.invokevirtual 169, 3) := by decide +kernel
theorem dX9_ask_45 : decode cX9_ask 45 = .ok (.ireturn, 1) := by decide +kernel
theorem dX9_overIn_0 : decode cX9_overIn 0 = .ok (.aload_n 0, 1) := by decide +kernel
theorem dX9_overIn_1 : decode cX9_overIn 1 = .ok (.iload_n 1, 1) := by decide +kernel
theorem dX9_overIn_2 : decode cX9_overIn 2 = .ok (.invokevirtual 154, 3) := by decide +kernel
theorem dX9_overIn_5 : decode cX9_overIn 5 = .ok (.ifCond .ne 7, 3) := by decide +kernel
theorem dX9_overIn_8 : decode cX9_overIn 8 = .ok (.iconst (-1), 1) := by decide +kernel
theorem dX9_overIn_9 : decode cX9_overIn 9 = .ok (.goto 17, 3) := by decide +kernel
theorem dX9_overIn_12 : decode cX9_overIn 12 = .ok (.aload_n 0, 1) := by decide +kernel
theorem dX9_overIn_13 : decode cX9_overIn 13 = .ok (.iload_n 1, 1) := by decide +kernel
theorem dX9_overIn_14 : decode cX9_overIn 14 = .ok (.invokevirtual 79, 3) := by decide +kernel
theorem dX9_overIn_17 : decode cX9_overIn 17 = .ok (.ifCond .ne 8, 3) := by decide +kernel
theorem dX9_overIn_20 : decode cX9_overIn 20 = .ok (.bipush (-4), 2) := by decide +kernel
theorem dX9_overIn_22 : decode cX9_overIn 22 = .ok (.goto 4, 3) := by decide +kernel
theorem dX9_overIn_25 : decode cX9_overIn 25 = .ok (.iconst 0, 1) := by decide +kernel
theorem dX9_overIn_26 : decode cX9_overIn 26 = .ok (.istore_n 2, 1) := by decide +kernel
theorem dX9_overIn_27 : decode cX9_overIn 27 = .ok (.iload_n 2, 1) := by decide +kernel
theorem dX9_overIn_28 : decode cX9_overIn 28 = .ok (.ifCond .ge 5, 3) := by decide +kernel
theorem dX9_overIn_31 : decode cX9_overIn 31 = .ok (.iload_n 2, 1) := by decide +kernel
theorem dX9_overIn_32 : decode cX9_overIn 32 = .ok (.ireturn, 1) := by decide +kernel
theorem dX9_overIn_33 : decode cX9_overIn 33 = .ok (.aload_n 0, 1) := by decide +kernel
theorem dX9_overIn_34 : decode cX9_overIn 34 = .ok (.getfield 7, 3) := by decide +kernel
theorem dX9_overIn_37 : decode cX9_overIn 37 = .ok (.iconst 0, 1) := by decide +kernel
theorem dX9_overIn_38 : decode cX9_overIn 38 = .ok (.aload_n 0, 1) := by decide +kernel
theorem dX9_overIn_39 : decode cX9_overIn 39 = .ok (.getfield 13, 3) := by decide +kernel
theorem dX9_overIn_42 : decode cX9_overIn 42 = .ok (.iconst 0, 1) := by decide +kernel
theorem dX9_overIn_43 : decode cX9_overIn 43 = .ok (.invokestatic 41, 3) := by decide +kernel
theorem dX9_overIn_46 : decode cX9_overIn 46 = .ok (.iconst 0, 1) := by decide +kernel
theorem dX9_overIn_47 : decode cX9_overIn 47 = .ok (.istore_n 3, 1) := by decide +kernel
theorem dX9_overIn_48 : decode cX9_overIn 48 = .ok (.iload_n 3, 1) := by decide +kernel
theorem dX9_overIn_49 : decode cX9_overIn 49 = .ok (.sipush 600, 3) := by decide +kernel
theorem dX9_overIn_52 : decode cX9_overIn 52 = .ok (.if_icmp .ge 22, 3) := by decide +kernel
theorem dX9_overIn_55 : decode cX9_overIn 55 = .ok (.aload_n 0, 1) := by decide +kernel
theorem dX9_overIn_56 : decode cX9_overIn 56 = .ok (.iload_n 1, 1) := by decide +kernel
theorem dX9_overIn_57 : decode cX9_overIn 57 = .ok (.invokevirtual 79, 3) := by decide +kernel
theorem dX9_overIn_60 : decode cX9_overIn 60 = .ok (.ifCond .eq 14, 3) := by decide +kernel
theorem dX9_overIn_63 : decode cX9_overIn 63 = .ok (.aload_n 0, 1) := by decide +kernel
theorem dX9_overIn_64 : decode cX9_overIn 64 = .ok (.invokevirtual 142, 3) := by decide +kernel
theorem dX9_overIn_67 : decode cX9_overIn 67 = .ok (.pop, 1) := by decide +kernel
theorem dX9_overIn_68 : decode cX9_overIn 68 = .ok (.iinc 3 1, 3) := by decide +kernel
theorem dX9_overIn_71 : decode cX9_overIn 71 = .ok (.goto (-23), 3) := by decide +kernel
theorem dX9_overIn_74 : decode cX9_overIn 74 = .ok (.aload_n 0, 1) := by decide +kernel
theorem dX9_overIn_75 : decode cX9_overIn 75 = .ok (.iload_n 1, 1) := by decide +kernel
theorem dX9_overIn_76 : decode cX9_overIn 76 = .ok (.bipush 9, 2) := by decide +kernel
theorem dX9_overIn_78 : decode cX9_overIn 78 = .ok (.invokevirtual 49, 3) := by decide +kernel
theorem dX9_overIn_81 : decode cX9_overIn 81 = .ok (.ifCond .ne 7, 3) := by decide +kernel
theorem dX9_overIn_84 : decode cX9_overIn 84 = .ok (.iload_n 3, 1) := by decide +kernel
theorem dX9_overIn_85 : decode cX9_overIn 85 = .ok (.goto 5, 3) := by decide +kernel
theorem dX9_overIn_88 : decode cX9_overIn 88 = .ok (.bipush (-5), 2) := by decide +kernel
theorem dX9_overIn_90 : decode cX9_overIn 90 = .ok (.istore 4, 2) := by decide +kernel
theorem dX9_overIn_92 : decode cX9_overIn 92 = .ok (.aload_n 0, 1) := by decide +kernel
theorem dX9_overIn_93 : decode cX9_overIn 93 = .ok (.getfield 13, 3) := by decide +kernel
theorem dX9_overIn_96 : decode cX9_overIn 96 = .ok (.iconst 0, 1) := by decide +kernel
theorem dX9_overIn_97 : decode cX9_overIn 97 = .ok (.aload_n 0, 1) := by decide +kernel
theorem dX9_overIn_98 : decode cX9_overIn 98 = .ok (.getfield 7, 3) := by decide +kernel
theorem dX9_overIn_101 : decode cX9_overIn 101 = .ok (.iconst 0, 1) := by decide +kernel
theorem dX9_overIn_102 : decode cX9_overIn 102 = .ok (.invokestatic 41, 3) := by decide +kernel
theorem dX9_overIn_105 : decode cX9_overIn 105 = .ok (.iload 4, 2) := by decide +kernel
theorem dX9_overIn_107 : decode cX9_overIn 107 = .ok (.ireturn, 1) := by decide +kernel
theorem dX9_freeIn_0 : decode cX9_freeIn 0 = .ok (.aload_n 0, 1) := by decide +kernel
theorem dX9_freeIn_1 : decode cX9_freeIn 1 = .ok (.iload_n 1, 1) := by decide +kernel
theorem dX9_freeIn_2 : decode cX9_freeIn 2 = .ok (.invokevirtual 154, 3) := by decide +kernel
theorem dX9_freeIn_5 : decode cX9_freeIn 5 = .ok (.ifCond .ne 5, 3) := by decide +kernel
theorem dX9_freeIn_8 : decode cX9_freeIn 8 = .ok (.iconst (-1), 1) := by decide +kernel
theorem dX9_freeIn_9 : decode cX9_freeIn 9 = .ok (.ireturn, 1) := by decide +kernel
theorem dX9_freeIn_10 : decode cX9_freeIn 10 = .ok (.aload_n 0, 1) := by decide +kernel
theorem dX9_freeIn_11 : decode cX9_freeIn 11 = .ok (.getfield 7, 3) := by decide +kernel
theorem dX9_freeIn_14 : decode cX9_freeIn 14 = .ok (.iconst 0, 1) := by decide +kernel
theorem dX9_freeIn_15 : decode cX9_freeIn 15 = .ok (.aload_n 0, 1) := by decide +kernel
theorem dX9_freeIn_16 : decode cX9_freeIn 16 = .ok (.getfield 13, 3) := by decide +kernel
theorem dX9_freeIn_19 : decode cX9_freeIn 19 = .ok (.iconst 0, 1) := by decide +kernel
theorem dX9_freeIn_20 : decode cX9_freeIn 20 = .ok (.invokestatic 41, 3) := by decide +kernel
theorem dX9_freeIn_23 : decode cX9_freeIn 23 = .ok (.iconst 0, 1) := by decide +kernel
theorem dX9_freeIn_24 : decode cX9_freeIn 24 = .ok (.istore_n 2, 1) := by decide +kernel
theorem dX9_freeIn_25 : decode cX9_freeIn 25 = .ok (.iload_n 2, 1) := by decide +kernel
theorem dX9_freeIn_26 : decode cX9_freeIn 26 = .ok (.sipush 600, 3) := by decide +kernel
theorem dX9_freeIn_29 : decode cX9_freeIn 29 = .ok (.if_icmp .ge 25, 3) := by decide +kernel
theorem dX9_freeIn_32 : decode cX9_freeIn 32 = .ok (.aload_n 0, 1) := by decide +kernel
theorem dX9_freeIn_33 : decode cX9_freeIn 33 = .ok (.iload_n 1, 1) := by decide +kernel
theorem dX9_freeIn_34 : decode cX9_freeIn 34 = .ok (.bipush 13, 2) := by decide +kernel
theorem dX9_freeIn_36 : decode cX9_freeIn 36 = .ok (.invokevirtual 49, 3) := by decide +kernel
theorem dX9_freeIn_39 : decode cX9_freeIn 39 = .ok (.iconst 2, 1) := by decide +kernel
theorem dX9_freeIn_40 : decode cX9_freeIn 40 = .ok (.if_icmp .ne 14, 3) := by decide +kernel
theorem dX9_freeIn_43 : decode cX9_freeIn 43 = .ok (.aload_n 0, 1) := by decide +kernel
theorem dX9_freeIn_44 : decode cX9_freeIn 44 = .ok (.invokevirtual 142, 3) := by decide +kernel
theorem dX9_freeIn_47 : decode cX9_freeIn 47 = .ok (.pop, 1) := by decide +kernel
theorem dX9_freeIn_48 : decode cX9_freeIn 48 = .ok (.iinc 2 1, 3) := by decide +kernel
theorem dX9_freeIn_51 : decode cX9_freeIn 51 = .ok (.goto (-26), 3) := by decide +kernel
theorem dX9_freeIn_54 : decode cX9_freeIn 54 = .ok (.aload_n 0, 1) := by decide +kernel
theorem dX9_freeIn_55 : decode cX9_freeIn 55 = .ok (.iload_n 1, 1) := by decide +kernel
theorem dX9_freeIn_56 : decode cX9_freeIn 56 = .ok (.bipush 13, 2) := by decide +kernel
theorem dX9_freeIn_58 : decode cX9_freeIn 58 = .ok (.invokevirtual 49, 3) := by decide +kernel
theorem dX9_freeIn_61 : decode cX9_freeIn 61 = .ok (.iconst 2, 1) := by decide +kernel
theorem dX9_freeIn_62 : decode cX9_freeIn 62 = .ok (.if_icmp .ne 8, 3) := by decide +kernel
theorem dX9_freeIn_65 : decode cX9_freeIn 65 = .ok (.bipush (-5), 2) := by decide +kernel
theorem dX9_freeIn_67 : decode cX9_freeIn 67 = .ok (.goto 4, 3) := by decide +kernel
theorem dX9_freeIn_70 : decode cX9_freeIn 70 = .ok (.iload_n 2, 1) := by decide +kernel
theorem dX9_freeIn_71 : decode cX9_freeIn 71 = .ok (.istore_n 3, 1) := by decide +kernel
theorem dX9_freeIn_72 : decode cX9_freeIn 72 = .ok (.aload_n 0, 1) := by decide +kernel
theorem dX9_freeIn_73 : decode cX9_freeIn 73 = .ok (.getfield 13, 3) := by decide +kernel
theorem dX9_freeIn_76 : decode cX9_freeIn 76 = .ok (.iconst 0, 1) := by decide +kernel
theorem dX9_freeIn_77 : decode cX9_freeIn 77 = .ok (.aload_n 0, 1) := by decide +kernel
theorem dX9_freeIn_78 : decode cX9_freeIn 78 = .ok (.getfield 7, 3) := by decide +kernel
theorem dX9_freeIn_81 : decode cX9_freeIn 81 = .ok (.iconst 0, 1) := by decide +kernel
theorem dX9_freeIn_82 : decode cX9_freeIn 82 = .ok (.invokestatic 41, 3) := by decide +kernel
theorem dX9_freeIn_85 : decode cX9_freeIn 85 = .ok (.iload_n 3, 1) := by decide +kernel
theorem dX9_freeIn_86 : decode cX9_freeIn 86 = .ok (.ireturn, 1) := by decide +kernel
theorem dX9_doorsThat_0 : decode cX9_doorsThat 0 = .ok (.iconst 0, 1) := by decide +kernel
theorem dX9_doorsThat_1 : decode cX9_doorsThat 1 = .ok (.istore_n 2, 1) := by decide +kernel
theorem dX9_doorsThat_2 : decode cX9_doorsThat 2 = .ok (.iconst 0, 1) := by decide +kernel
theorem dX9_doorsThat_3 : decode cX9_doorsThat 3 = .ok (.istore_n 3, 1) := by decide +kernel
theorem dX9_doorsThat_4 : decode cX9_doorsThat 4 = .ok (.iload_n 3, 1) := by decide +kernel
theorem dX9_doorsThat_5 : decode cX9_doorsThat 5 = .ok (.aload_n 0, 1) := by decide +kernel
theorem dX9_doorsThat_6 : decode cX9_doorsThat 6 = .ok (.getfield 7, 3) := by decide +kernel
theorem dX9_doorsThat_9 : decode cX9_doorsThat 9 = .ok (.iconst 2, 1) := by decide +kernel
theorem dX9_doorsThat_10 : decode cX9_doorsThat 10 = .ok (.iaload, 1) := by decide +kernel
theorem dX9_doorsThat_11 : decode cX9_doorsThat 11 = .ok (.if_icmp .ge 28, 3) := by decide +kernel
theorem dX9_doorsThat_14 : decode cX9_doorsThat 14 = .ok (.iload_n 2, 1) := by decide +kernel
theorem dX9_doorsThat_15 : decode cX9_doorsThat 15 = .ok (.aload_n 0, 1) := by decide +kernel
theorem dX9_doorsThat_16 : decode cX9_doorsThat 16 = .ok (.iload_n 3, 1) := by decide +kernel
theorem dX9_doorsThat_17 : decode cX9_doorsThat 17 = .ok (.bipush 13, 2) := by decide +kernel
theorem dX9_doorsThat_19 : decode cX9_doorsThat 19 = .ok (.invokevirtual 49, 3) := by decide +kernel
theorem dX9_doorsThat_22 : decode cX9_doorsThat 22 = .ok (.iload_n 1, 1) := by decide +kernel
theorem dX9_doorsThat_23 : decode cX9_doorsThat 23 = .ok (.if_icmp .ne 7, 3) := by decide +kernel
theorem dX9_doorsThat_26 : decode cX9_doorsThat 26 = .ok (.iconst 1, 1) := by decide +kernel
theorem dX9_doorsThat_27 : decode cX9_doorsThat 27 = .ok (.goto 4, 3) := by decide +kernel
theorem dX9_doorsThat_30 : decode cX9_doorsThat 30 = .ok (.iconst 0, 1) := by decide +kernel
theorem dX9_doorsThat_31 : decode cX9_doorsThat 31 = .ok (.iadd, 1) := by decide +kernel
theorem dX9_doorsThat_32 : decode cX9_doorsThat 32 = .ok (.istore_n 2, 1) := by decide +kernel
theorem dX9_doorsThat_33 : decode cX9_doorsThat 33 = .ok (.iinc 3 1, 3) := by decide +kernel
theorem dX9_doorsThat_36 : decode cX9_doorsThat 36 = .ok (.goto (-32), 3) := by decide +kernel
theorem dX9_doorsThat_39 : decode cX9_doorsThat 39 = .ok (.iload_n 2, 1) := by decide +kernel
theorem dX9_doorsThat_40 : decode cX9_doorsThat 40 = .ok (.ireturn, 1) := by decide +kernel
theorem dX9_count_0 : decode cX9_count 0 = .ok (.iconst 0, 1) := by decide +kernel
theorem dX9_count_1 : decode cX9_count 1 = .ok (.istore_n 2, 1) := by decide +kernel
theorem dX9_count_2 : decode cX9_count 2 = .ok (.iconst 0, 1) := by decide +kernel
theorem dX9_count_3 : decode cX9_count 3 = .ok (.istore_n 3, 1) := by decide +kernel
theorem dX9_count_4 : decode cX9_count 4 = .ok (.iload_n 3, 1) := by decide +kernel
theorem dX9_count_5 : decode cX9_count 5 = .ok (.aload_n 0, 1) := by decide +kernel
theorem dX9_count_6 : decode cX9_count 6 = .ok (.getfield 7, 3) := by decide +kernel
theorem dX9_count_9 : decode cX9_count 9 = .ok (.iconst 2, 1) := by decide +kernel
theorem dX9_count_10 : decode cX9_count 10 = .ok (.iaload, 1) := by decide +kernel
theorem dX9_count_11 : decode cX9_count 11 = .ok (.if_icmp .ge 17, 3) := by decide +kernel
theorem dX9_count_14 : decode cX9_count 14 = .ok (.iload_n 2, 1) := by decide +kernel
theorem dX9_count_15 : decode cX9_count 15 = .ok (.aload_n 0, 1) := by decide +kernel
theorem dX9_count_16 : decode cX9_count 16 = .ok (.iload_n 3, 1) := by decide +kernel
theorem dX9_count_17 : decode cX9_count 17 = .ok (.invokevirtual 91, 3) := by decide +kernel
theorem dX9_count_20 : decode cX9_count 20 = .ok (.iadd, 1) := by decide +kernel
theorem dX9_count_21 : decode cX9_count 21 = .ok (.istore_n 2, 1) := by decide +kernel
theorem dX9_count_22 : decode cX9_count 22 = .ok (.iinc 3 1, 3) := by decide +kernel
theorem dX9_count_25 : decode cX9_count 25 = .ok (.goto (-21), 3) := by decide +kernel
theorem dX9_count_28 : decode cX9_count 28 = .ok (.iload_n 1, 1) := by decide +kernel
theorem dX9_count_29 : decode cX9_count 29 = .ok (.tableswitch 133 0 14 #[75, 75, 75, 84, 90, 96, 102, 108, 108, 108, 108, 108, 121, 123, 128], 75) := by decide +kernel
theorem dX9_count_104 : decode cX9_count 104 = .ok (.aload_n 0, 1) := by decide +kernel
theorem dX9_count_105 : decode cX9_count 105 = .ok (.getfield 7, 3) := by decide +kernel
theorem dX9_count_108 : decode cX9_count 108 = .ok (.iconst 0, 1) := by decide +kernel
theorem dX9_count_109 : decode cX9_count 109 = .ok (.iload_n 1, 1) := by decide +kernel
theorem dX9_count_110 : decode cX9_count 110 = .ok (.iadd, 1) := by decide +kernel
theorem dX9_count_111 : decode cX9_count 111 = .ok (.iaload, 1) := by decide +kernel
theorem dX9_count_112 : decode cX9_count 112 = .ok (.ireturn, 1) := by decide +kernel
theorem dX9_count_113 : decode cX9_count 113 = .ok (.aload_n 0, 1) := by decide +kernel
theorem dX9_count_114 : decode cX9_count 114 = .ok (.iconst 1, 1) := by decide +kernel
theorem dX9_count_115 : decode cX9_count 115 = .ok (.invokevirtual 85, 3) := by decide +kernel
theorem dX9_count_118 : decode cX9_count 118 = .ok (.ireturn, 1) := by decide +kernel
theorem dX9_count_119 : decode cX9_count 119 = .ok (.aload_n 0, 1) := by decide +kernel
theorem dX9_count_120 : decode cX9_count 120 = .ok (.iconst 2, 1) := by decide +kernel
theorem dX9_count_121 : decode cX9_count 121 = .ok (.invokevirtual 85, 3) := by decide +kernel
theorem dX9_count_124 : decode cX9_count 124 = .ok (.ireturn, 1) := by decide +kernel
theorem dX9_count_125 : decode cX9_count 125 = .ok (.aload_n 0, 1) := by decide +kernel
theorem dX9_count_126 : decode cX9_count 126 = .ok (.iconst 2, 1) := by decide +kernel
theorem dX9_count_127 : decode cX9_count 127 = .ok (.invokevirtual 179, 3) := by decide +kernel
theorem dX9_count_130 : decode cX9_count 130 = .ok (.ireturn, 1) := by decide +kernel
theorem dX9_count_131 : decode cX9_count 131 = .ok (.aload_n 0, 1) := by decide +kernel
theorem dX9_count_132 : decode cX9_count 132 = .ok (.iconst 0, 1) := by decide +kernel
theorem dX9_count_133 : decode cX9_count 133 = .ok (.invokevirtual 179, 3) := by decide +kernel
theorem dX9_count_136 : decode cX9_count 136 = .ok (.ireturn, 1) := by decide +kernel
theorem dX9_count_137 : decode cX9_count 137 = .ok (.aload_n 0, 1) := by decide +kernel
theorem dX9_count_138 : decode cX9_count 138 = .ok (.getfield 7, 3) := by decide +kernel
theorem dX9_count_141 : decode cX9_count 141 = .ok (.bipush 8, 2) := by decide +kernel
theorem dX9_count_143 : decode cX9_count 143 = .ok (.iload_n 1, 1) := by decide +kernel
theorem dX9_count_144 : decode cX9_count 144 = .ok (.iadd, 1) := by decide +kernel
theorem dX9_count_145 : decode cX9_count 145 = .ok (.bipush 7, 2) := by decide +kernel
theorem dX9_count_147 : decode cX9_count 147 = .ok (.isub, 1) := by decide +kernel
theorem dX9_count_148 : decode cX9_count 148 = .ok (.iaload, 1) := by decide +kernel
theorem dX9_count_149 : decode cX9_count 149 = .ok (.ireturn, 1) := by decide +kernel
theorem dX9_count_150 : decode cX9_count 150 = .ok (.iload_n 2, 1) := by decide +kernel
theorem dX9_count_151 : decode cX9_count 151 = .ok (.ireturn, 1) := by decide +kernel
theorem dX9_count_152 : decode cX9_count 152 = .ok (.aload_n 0, 1) := by decide +kernel
theorem dX9_count_153 : decode cX9_count 153 = .ok (.getfield 37, 3) := by decide +kernel
theorem dX9_count_156 : decode cX9_count 156 = .ok (.ireturn, 1) := by decide +kernel
theorem dX9_count_157 : decode cX9_count 157 = .ok (.aload_n 0, 1) := by decide +kernel
theorem dX9_count_158 : decode cX9_count 158 = .ok (.getfield 145, 3) := by decide +kernel
theorem dX9_count_161 : decode cX9_count 161 = .ok (.ireturn, 1) := by decide +kernel
theorem dX9_count_162 : decode cX9_count 162 = .ok (.bipush (-2), 2) := by decide +kernel
theorem dX9_count_164 : decode cX9_count 164 = .ok (.ireturn, 1) := by decide +kernel
theorem dL_law_0 : decode cL_law 0 = .ok (.new 7, 3) := by decide +kernel
theorem dL_law_3 : decode cL_law 3 = .ok (.dup, 1) := by decide +kernel
theorem dL_law_4 : decode cL_law 4 = .ok (.invokespecial 9, 3) := by decide +kernel
theorem dL_law_7 : decode cL_law 7 = .ok (.astore_n 1, 1) := by decide +kernel
theorem dL_law_8 : decode cL_law 8 = .ok (.new 10, 3) := by decide +kernel
theorem dL_law_11 : decode cL_law 11 = .ok (.dup, 1) := by decide +kernel
theorem dL_law_12 : decode cL_law 12 = .ok (.invokespecial 12, 3) := by decide +kernel
theorem dL_law_15 : decode cL_law 15 = .ok (.astore_n 2, 1) := by decide +kernel
theorem dL_law_16 : decode cL_law 16 = .ok (.iconst 0, 1) := by decide +kernel
theorem dL_law_17 : decode cL_law 17 = .ok (.istore_n 3, 1) := by decide +kernel
theorem dL_law_18 : decode cL_law 18 = .ok (.iload_n 3, 1) := by decide +kernel
theorem dL_law_19 : decode cL_law 19 = .ok (.aload_n 0, 1) := by decide +kernel
theorem dL_law_20 : decode cL_law 20 = .ok (.arraylength, 1) := by decide +kernel
theorem dL_law_21 : decode cL_law 21 = .ok (.bipush 6, 2) := by decide +kernel
theorem dL_law_23 : decode cL_law 23 = .ok (.isub, 1) := by decide +kernel
theorem dL_law_24 : decode cL_law 24 = .ok (.if_icmp .gt 840, 3) := by decide +kernel
theorem dL_law_27 : decode cL_law 27 = .ok (.aload_n 0, 1) := by decide +kernel
theorem dL_law_28 : decode cL_law 28 = .ok (.iload_n 3, 1) := by decide +kernel
theorem dL_law_29 : decode cL_law 29 = .ok (.iaload, 1) := by decide +kernel
theorem dL_law_30 : decode cL_law 30 = .ok (.bipush 31, 2) := by decide +kernel
theorem dL_law_32 : decode cL_law 32 = .ok (.iand, 1) := by decide +kernel
theorem dL_law_33 : decode cL_law 33 = .ok (.tableswitch 825 0 25 #[119, 162, 195, 234, 257, 282, 295, 318, 341, 364, 387, 410, 433, 496, 509, 522, 535, 568, 601, 644, 667, 690, 723, 756, 779, 802], 119) := by decide +kernel
theorem dL_law_152 : decode cL_law 152 = .ok (.aload_n 1, 1) := by decide +kernel
theorem dL_law_153 : decode cL_law 153 = .ok (.aload_n 0, 1) := by decide +kernel
theorem dL_law_154 : decode cL_law 154 = .ok (.iload_n 3, 1) := by decide +kernel
theorem dL_law_155 : decode cL_law 155 = .ok (.iconst 1, 1) := by decide +kernel
theorem dL_law_156 : decode cL_law 156 = .ok (.iadd, 1) := by decide +kernel
theorem dL_law_157 : decode cL_law 157 = .ok (.iaload, 1) := by decide +kernel
theorem dL_law_158 : decode cL_law 158 = .ok (.aload_n 0, 1) := by decide +kernel
theorem dL_law_159 : decode cL_law 159 = .ok (.iload_n 3, 1) := by decide +kernel
theorem dL_law_160 : decode cL_law 160 = .ok (.iconst 2, 1) := by decide +kernel
theorem dL_law_161 : decode cL_law 161 = .ok (.iadd, 1) := by decide +kernel
theorem dL_law_162 : decode cL_law 162 = .ok (.iaload, 1) := by decide +kernel
theorem dL_law_163 : decode cL_law 163 = .ok (.aload_n 0, 1) := by decide +kernel
theorem dL_law_164 : decode cL_law 164 = .ok (.iload_n 3, 1) := by decide +kernel
theorem dL_law_165 : decode cL_law 165 = .ok (.iconst 3, 1) := by decide +kernel
theorem dL_law_166 : decode cL_law 166 = .ok (.iadd, 1) := by decide +kernel
theorem dL_law_167 : decode cL_law 167 = .ok (.iaload, 1) := by decide +kernel
theorem dL_law_168 : decode cL_law 168 = .ok (.invokevirtual 13, 3) := by decide +kernel
theorem dL_law_171 : decode cL_law 171 = .ok (.aload_n 2, 1) := by decide +kernel
theorem dL_law_172 : decode cL_law 172 = .ok (.aload_n 0, 1) := by decide +kernel
theorem dL_law_173 : decode cL_law 173 = .ok (.iload_n 3, 1) := by decide +kernel
theorem dL_law_174 : decode cL_law 174 = .ok (.iconst 1, 1) := by decide +kernel
theorem dL_law_175 : decode cL_law 175 = .ok (.iadd, 1) := by decide +kernel
theorem dL_law_176 : decode cL_law 176 = .ok (.iaload, 1) := by decide +kernel
theorem dL_law_177 : decode cL_law 177 = .ok (.aload_n 0, 1) := by decide +kernel
theorem dL_law_178 : decode cL_law 178 = .ok (.iload_n 3, 1) := by decide +kernel
theorem dL_law_179 : decode cL_law 179 = .ok (.iconst 2, 1) := by decide +kernel
theorem dL_law_180 : decode cL_law 180 = .ok (.iadd, 1) := by decide +kernel
theorem dL_law_181 : decode cL_law 181 = .ok (.iaload, 1) := by decide +kernel
theorem dL_law_182 : decode cL_law 182 = .ok (.aload_n 0, 1) := by decide +kernel
theorem dL_law_183 : decode cL_law 183 = .ok (.iload_n 3, 1) := by decide +kernel
theorem dL_law_184 : decode cL_law 184 = .ok (.iconst 3, 1) := by decide +kernel
theorem dL_law_185 : decode cL_law 185 = .ok (.iadd, 1) := by decide +kernel
theorem dL_law_186 : decode cL_law 186 = .ok (.iaload, 1) := by decide +kernel
theorem dL_law_187 : decode cL_law 187 = .ok (.invokevirtual 17, 3) := by decide +kernel
theorem dL_law_190 : decode cL_law 190 = .ok (.if_icmp .eq 668, 3) := by decide +kernel
theorem dL_law_193 : decode cL_law 193 = .ok (.iconst 0, 1) := by decide +kernel
theorem dL_law_194 : decode cL_law 194 = .ok (.ireturn, 1) := by decide +kernel
theorem dL_law_195 : decode cL_law 195 = .ok (.aload_n 1, 1) := by decide +kernel
theorem dL_law_196 : decode cL_law 196 = .ok (.aload_n 0, 1) := by decide +kernel
theorem dL_law_197 : decode cL_law 197 = .ok (.iload_n 3, 1) := by decide +kernel
theorem dL_law_198 : decode cL_law 198 = .ok (.iconst 1, 1) := by decide +kernel
theorem dL_law_199 : decode cL_law 199 = .ok (.iadd, 1) := by decide +kernel
theorem dL_law_200 : decode cL_law 200 = .ok (.iaload, 1) := by decide +kernel
theorem dL_law_201 : decode cL_law 201 = .ok (.aload_n 0, 1) := by decide +kernel
theorem dL_law_202 : decode cL_law 202 = .ok (.iload_n 3, 1) := by decide +kernel
theorem dL_law_203 : decode cL_law 203 = .ok (.iconst 2, 1) := by decide +kernel
theorem dL_law_204 : decode cL_law 204 = .ok (.iadd, 1) := by decide +kernel
theorem dL_law_205 : decode cL_law 205 = .ok (.iaload, 1) := by decide +kernel
theorem dL_law_206 : decode cL_law 206 = .ok (.invokevirtual 18, 3) := by decide +kernel
theorem dL_law_209 : decode cL_law 209 = .ok (.aload_n 2, 1) := by decide +kernel
theorem dL_law_210 : decode cL_law 210 = .ok (.aload_n 0, 1) := by decide +kernel
theorem dL_law_211 : decode cL_law 211 = .ok (.iload_n 3, 1) := by decide +kernel
theorem dL_law_212 : decode cL_law 212 = .ok (.iconst 1, 1) := by decide +kernel
theorem dL_law_213 : decode cL_law 213 = .ok (.iadd, 1) := by decide +kernel
theorem dL_law_214 : decode cL_law 214 = .ok (.iaload, 1) := by decide +kernel
theorem dL_law_215 : decode cL_law 215 = .ok (.aload_n 0, 1) := by decide +kernel
theorem dL_law_216 : decode cL_law 216 = .ok (.iload_n 3, 1) := by decide +kernel
theorem dL_law_217 : decode cL_law 217 = .ok (.iconst 2, 1) := by decide +kernel
theorem dL_law_218 : decode cL_law 218 = .ok (.iadd, 1) := by decide +kernel
theorem dL_law_219 : decode cL_law 219 = .ok (.iaload, 1) := by decide +kernel
theorem dL_law_220 : decode cL_law 220 = .ok (.invokevirtual 22, 3) := by decide +kernel
theorem dL_law_223 : decode cL_law 223 = .ok (.if_icmp .eq 635, 3) := by decide +kernel
theorem dL_law_226 : decode cL_law 226 = .ok (.iconst 0, 1) := by decide +kernel
theorem dL_law_227 : decode cL_law 227 = .ok (.ireturn, 1) := by decide +kernel
theorem dL_law_228 : decode cL_law 228 = .ok (.aload_n 1, 1) := by decide +kernel
theorem dL_law_229 : decode cL_law 229 = .ok (.aload_n 0, 1) := by decide +kernel
theorem dL_law_230 : decode cL_law 230 = .ok (.iload_n 3, 1) := by decide +kernel
theorem dL_law_231 : decode cL_law 231 = .ok (.iconst 1, 1) := by decide +kernel
theorem dL_law_232 : decode cL_law 232 = .ok (.iadd, 1) := by decide +kernel
theorem dL_law_233 : decode cL_law 233 = .ok (.iaload, 1) := by decide +kernel
theorem dL_law_234 : decode cL_law 234 = .ok (.ifCond .eq 7, 3) := by decide +kernel
theorem dL_law_237 : decode cL_law 237 = .ok (.iconst 1, 1) := by decide +kernel
theorem dL_law_238 : decode cL_law 238 = .ok (.goto 4, 3) := by decide +kernel
theorem dL_law_241 : decode cL_law 241 = .ok (.iconst 0, 1) := by decide +kernel
theorem dL_law_242 : decode cL_law 242 = .ok (.invokevirtual 23, 3) := by decide +kernel
theorem dL_law_245 : decode cL_law 245 = .ok (.aload_n 2, 1) := by decide +kernel
theorem dL_law_246 : decode cL_law 246 = .ok (.aload_n 0, 1) := by decide +kernel
theorem dL_law_247 : decode cL_law 247 = .ok (.iload_n 3, 1) := by decide +kernel
theorem dL_law_248 : decode cL_law 248 = .ok (.iconst 1, 1) := by decide +kernel
theorem dL_law_249 : decode cL_law 249 = .ok (.iadd, 1) := by decide +kernel
theorem dL_law_250 : decode cL_law 250 = .ok (.iaload, 1) := by decide +kernel
theorem dL_law_251 : decode cL_law 251 = .ok (.ifCond .eq 7, 3) := by decide +kernel
theorem dL_law_254 : decode cL_law 254 = .ok (.iconst 1, 1) := by decide +kernel
theorem dL_law_255 : decode cL_law 255 = .ok (.goto 4, 3) := by decide +kernel
theorem dL_law_258 : decode cL_law 258 = .ok (.iconst 0, 1) := by decide +kernel
theorem dL_law_259 : decode cL_law 259 = .ok (.invokevirtual 27, 3) := by decide +kernel
theorem dL_law_262 : decode cL_law 262 = .ok (.if_icmp .eq 596, 3) := by decide +kernel
theorem dL_law_265 : decode cL_law 265 = .ok (.iconst 0, 1) := by decide +kernel
theorem dL_law_266 : decode cL_law 266 = .ok (.ireturn, 1) := by decide +kernel
theorem dL_law_267 : decode cL_law 267 = .ok (.aload_n 1, 1) := by decide +kernel
theorem dL_law_268 : decode cL_law 268 = .ok (.aload_n 0, 1) := by decide +kernel
theorem dL_law_269 : decode cL_law 269 = .ok (.iload_n 3, 1) := by decide +kernel
theorem dL_law_270 : decode cL_law 270 = .ok (.iconst 1, 1) := by decide +kernel
theorem dL_law_271 : decode cL_law 271 = .ok (.iadd, 1) := by decide +kernel
theorem dL_law_272 : decode cL_law 272 = .ok (.iaload, 1) := by decide +kernel
theorem dL_law_273 : decode cL_law 273 = .ok (.invokevirtual 28, 3) := by decide +kernel
theorem dL_law_276 : decode cL_law 276 = .ok (.aload_n 2, 1) := by decide +kernel
theorem dL_law_277 : decode cL_law 277 = .ok (.aload_n 0, 1) := by decide +kernel
theorem dL_law_278 : decode cL_law 278 = .ok (.iload_n 3, 1) := by decide +kernel
theorem dL_law_279 : decode cL_law 279 = .ok (.iconst 1, 1) := by decide +kernel
theorem dL_law_280 : decode cL_law 280 = .ok (.iadd, 1) := by decide +kernel
theorem dL_law_281 : decode cL_law 281 = .ok (.iaload, 1) := by decide +kernel
theorem dL_law_282 : decode cL_law 282 = .ok (.invokevirtual 32, 3) := by decide +kernel
theorem dL_law_285 : decode cL_law 285 = .ok (.if_icmp .eq 573, 3) := by decide +kernel
theorem dL_law_288 : decode cL_law 288 = .ok (.iconst 0, 1) := by decide +kernel
theorem dL_law_289 : decode cL_law 289 = .ok (.ireturn, 1) := by decide +kernel
theorem dL_law_290 : decode cL_law 290 = .ok (.aload_n 1, 1) := by decide +kernel
theorem dL_law_291 : decode cL_law 291 = .ok (.aload_n 0, 1) := by decide +kernel
theorem dL_law_292 : decode cL_law 292 = .ok (.iload_n 3, 1) := by decide +kernel
theorem dL_law_293 : decode cL_law 293 = .ok (.iconst 1, 1) := by decide +kernel
theorem dL_law_294 : decode cL_law 294 = .ok (.iadd, 1) := by decide +kernel
theorem dL_law_295 : decode cL_law 295 = .ok (.iaload, 1) := by decide +kernel
theorem dL_law_296 : decode cL_law 296 = .ok (.i2c, 1) := by decide +kernel
theorem dL_law_297 : decode cL_law 297 = .ok (.invokevirtual 33, 3) := by decide +kernel
theorem dL_law_300 : decode cL_law 300 = .ok (.aload_n 2, 1) := by decide +kernel
theorem dL_law_301 : decode cL_law 301 = .ok (.aload_n 0, 1) := by decide +kernel
theorem dL_law_302 : decode cL_law 302 = .ok (.iload_n 3, 1) := by decide +kernel
theorem dL_law_303 : decode cL_law 303 = .ok (.iconst 1, 1) := by decide +kernel
theorem dL_law_304 : decode cL_law 304 = .ok (.iadd, 1) := by decide +kernel
theorem dL_law_305 : decode cL_law 305 = .ok (.iaload, 1) := by decide +kernel
theorem dL_law_306 : decode cL_law 306 = .ok (.i2c, 1) := by decide +kernel
theorem dL_law_307 : decode cL_law 307 = .ok (.invokevirtual 37, 3) := by decide +kernel
theorem dL_law_310 : decode cL_law 310 = .ok (.if_icmp .eq 548, 3) := by decide +kernel
theorem dL_law_313 : decode cL_law 313 = .ok (.iconst 0, 1) := by decide +kernel
theorem dL_law_314 : decode cL_law 314 = .ok (.ireturn, 1) := by decide +kernel
theorem dL_law_315 : decode cL_law 315 = .ok (.aload_n 1, 1) := by decide +kernel
theorem dL_law_316 : decode cL_law 316 = .ok (.invokevirtual 38, 3) := by decide +kernel
theorem dL_law_319 : decode cL_law 319 = .ok (.aload_n 2, 1) := by decide +kernel
theorem dL_law_320 : decode cL_law 320 = .ok (.invokevirtual 42, 3) := by decide +kernel
theorem dL_law_323 : decode cL_law 323 = .ok (.if_icmp .eq 535, 3) := by decide +kernel
theorem dL_law_326 : decode cL_law 326 = .ok (.iconst 0, 1) := by decide +kernel
theorem dL_law_327 : decode cL_law 327 = .ok (.ireturn, 1) := by decide +kernel
theorem dL_law_328 : decode cL_law 328 = .ok (.aload_n 1, 1) := by decide +kernel
theorem dL_law_329 : decode cL_law 329 = .ok (.aload_n 0, 1) := by decide +kernel
theorem dL_law_330 : decode cL_law 330 = .ok (.iload_n 3, 1) := by decide +kernel
theorem dL_law_331 : decode cL_law 331 = .ok (.iconst 1, 1) := by decide +kernel
theorem dL_law_332 : decode cL_law 332 = .ok (.iadd, 1) := by decide +kernel
theorem dL_law_333 : decode cL_law 333 = .ok (.iaload, 1) := by decide +kernel
theorem dL_law_334 : decode cL_law 334 = .ok (.invokevirtual 43, 3) := by decide +kernel
theorem dL_law_337 : decode cL_law 337 = .ok (.aload_n 2, 1) := by decide +kernel
theorem dL_law_338 : decode cL_law 338 = .ok (.aload_n 0, 1) := by decide +kernel
theorem dL_law_339 : decode cL_law 339 = .ok (.iload_n 3, 1) := by decide +kernel
theorem dL_law_340 : decode cL_law 340 = .ok (.iconst 1, 1) := by decide +kernel
theorem dL_law_341 : decode cL_law 341 = .ok (.iadd, 1) := by decide +kernel
theorem dL_law_342 : decode cL_law 342 = .ok (.iaload, 1) := by decide +kernel
theorem dL_law_343 : decode cL_law 343 = .ok (.invokevirtual 46, 3) := by decide +kernel
theorem dL_law_346 : decode cL_law 346 = .ok (.if_icmp .eq 512, 3) := by decide +kernel
theorem dL_law_349 : decode cL_law 349 = .ok (.iconst 0, 1) := by decide +kernel
theorem dL_law_350 : decode cL_law 350 = .ok (.ireturn, 1) := by decide +kernel
theorem dL_law_351 : decode cL_law 351 = .ok (.aload_n 1, 1) := by decide +kernel
theorem dL_law_352 : decode cL_law 352 = .ok (.aload_n 0, 1) := by decide +kernel
theorem dL_law_353 : decode cL_law 353 = .ok (.iload_n 3, 1) := by decide +kernel
theorem dL_law_354 : decode cL_law 354 = .ok (.iconst 1, 1) := by decide +kernel
theorem dL_law_355 : decode cL_law 355 = .ok (.iadd, 1) := by decide +kernel
theorem dL_law_356 : decode cL_law 356 = .ok (.iaload, 1) := by decide +kernel
theorem dL_law_357 : decode cL_law 357 = .ok (.invokevirtual 47, 3) := by decide +kernel
theorem dL_law_360 : decode cL_law 360 = .ok (.aload_n 2, 1) := by decide +kernel
theorem dL_law_361 : decode cL_law 361 = .ok (.aload_n 0, 1) := by decide +kernel
theorem dL_law_362 : decode cL_law 362 = .ok (.iload_n 3, 1) := by decide +kernel
theorem dL_law_363 : decode cL_law 363 = .ok (.iconst 1, 1) := by decide +kernel
theorem dL_law_364 : decode cL_law 364 = .ok (.iadd, 1) := by decide +kernel
theorem dL_law_365 : decode cL_law 365 = .ok (.iaload, 1) := by decide +kernel
theorem dL_law_366 : decode cL_law 366 = .ok (.invokevirtual 50, 3) := by decide +kernel
theorem dL_law_369 : decode cL_law 369 = .ok (.if_icmp .eq 489, 3) := by decide +kernel
theorem dL_law_372 : decode cL_law 372 = .ok (.iconst 0, 1) := by decide +kernel
theorem dL_law_373 : decode cL_law 373 = .ok (.ireturn, 1) := by decide +kernel
theorem dL_law_374 : decode cL_law 374 = .ok (.aload_n 1, 1) := by decide +kernel
theorem dL_law_375 : decode cL_law 375 = .ok (.aload_n 0, 1) := by decide +kernel
theorem dL_law_376 : decode cL_law 376 = .ok (.iload_n 3, 1) := by decide +kernel
theorem dL_law_377 : decode cL_law 377 = .ok (.iconst 1, 1) := by decide +kernel
theorem dL_law_378 : decode cL_law 378 = .ok (.iadd, 1) := by decide +kernel
theorem dL_law_379 : decode cL_law 379 = .ok (.iaload, 1) := by decide +kernel
theorem dL_law_380 : decode cL_law 380 = .ok (.invokevirtual 51, 3) := by decide +kernel
theorem dL_law_383 : decode cL_law 383 = .ok (.aload_n 2, 1) := by decide +kernel
theorem dL_law_384 : decode cL_law 384 = .ok (.aload_n 0, 1) := by decide +kernel
theorem dL_law_385 : decode cL_law 385 = .ok (.iload_n 3, 1) := by decide +kernel
theorem dL_law_386 : decode cL_law 386 = .ok (.iconst 1, 1) := by decide +kernel
theorem dL_law_387 : decode cL_law 387 = .ok (.iadd, 1) := by decide +kernel
theorem dL_law_388 : decode cL_law 388 = .ok (.iaload, 1) := by decide +kernel
theorem dL_law_389 : decode cL_law 389 = .ok (.invokevirtual 54, 3) := by decide +kernel
theorem dL_law_392 : decode cL_law 392 = .ok (.if_icmp .eq 466, 3) := by decide +kernel
theorem dL_law_395 : decode cL_law 395 = .ok (.iconst 0, 1) := by decide +kernel
theorem dL_law_396 : decode cL_law 396 = .ok (.ireturn, 1) := by decide +kernel
theorem dL_law_397 : decode cL_law 397 = .ok (.aload_n 1, 1) := by decide +kernel
theorem dL_law_398 : decode cL_law 398 = .ok (.aload_n 0, 1) := by decide +kernel
theorem dL_law_399 : decode cL_law 399 = .ok (.iload_n 3, 1) := by decide +kernel
theorem dL_law_400 : decode cL_law 400 = .ok (.iconst 1, 1) := by decide +kernel
theorem dL_law_401 : decode cL_law 401 = .ok (.iadd, 1) := by decide +kernel
theorem dL_law_402 : decode cL_law 402 = .ok (.iaload, 1) := by decide +kernel
theorem dL_law_403 : decode cL_law 403 = .ok (.invokevirtual 55, 3) := by decide +kernel
theorem dL_law_406 : decode cL_law 406 = .ok (.aload_n 2, 1) := by decide +kernel
theorem dL_law_407 : decode cL_law 407 = .ok (.aload_n 0, 1) := by decide +kernel
theorem dL_law_408 : decode cL_law 408 = .ok (.iload_n 3, 1) := by decide +kernel
theorem dL_law_409 : decode cL_law 409 = .ok (.iconst 1, 1) := by decide +kernel
theorem dL_law_410 : decode cL_law 410 = .ok (.iadd, 1) := by decide +kernel
theorem dL_law_411 : decode cL_law 411 = .ok (.iaload, 1) := by decide +kernel
theorem dL_law_412 : decode cL_law 412 = .ok (.invokevirtual 58, 3) := by decide +kernel
theorem dL_law_415 : decode cL_law 415 = .ok (.if_icmp .eq 443, 3) := by decide +kernel
theorem dL_law_418 : decode cL_law 418 = .ok (.iconst 0, 1) := by decide +kernel
theorem dL_law_419 : decode cL_law 419 = .ok (.ireturn, 1) := by decide +kernel
theorem dL_law_420 : decode cL_law 420 = .ok (.aload_n 1, 1) := by decide +kernel
theorem dL_law_421 : decode cL_law 421 = .ok (.aload_n 0, 1) := by decide +kernel
theorem dL_law_422 : decode cL_law 422 = .ok (.iload_n 3, 1) := by decide +kernel
theorem dL_law_423 : decode cL_law 423 = .ok (.iconst 1, 1) := by decide +kernel
theorem dL_law_424 : decode cL_law 424 = .ok (.iadd, 1) := by decide +kernel
theorem dL_law_425 : decode cL_law 425 = .ok (.iaload, 1) := by decide +kernel
theorem dL_law_426 : decode cL_law 426 = .ok (.invokevirtual 59, 3) := by decide +kernel
theorem dL_law_429 : decode cL_law 429 = .ok (.aload_n 2, 1) := by decide +kernel
theorem dL_law_430 : decode cL_law 430 = .ok (.aload_n 0, 1) := by decide +kernel
theorem dL_law_431 : decode cL_law 431 = .ok (.iload_n 3, 1) := by decide +kernel
theorem dL_law_432 : decode cL_law 432 = .ok (.iconst 1, 1) := by decide +kernel
theorem dL_law_433 : decode cL_law 433 = .ok (.iadd, 1) := by decide +kernel
theorem dL_law_434 : decode cL_law 434 = .ok (.iaload, 1) := by decide +kernel
theorem dL_law_435 : decode cL_law 435 = .ok (.invokevirtual 62, 3) := by decide +kernel
theorem dL_law_438 : decode cL_law 438 = .ok (.if_icmp .eq 420, 3) := by decide +kernel
theorem dL_law_441 : decode cL_law 441 = .ok (.iconst 0, 1) := by decide +kernel
theorem dL_law_442 : decode cL_law 442 = .ok (.ireturn, 1) := by decide +kernel
theorem dL_law_443 : decode cL_law 443 = .ok (.aload_n 1, 1) := by decide +kernel
theorem dL_law_444 : decode cL_law 444 = .ok (.aload_n 0, 1) := by decide +kernel
theorem dL_law_445 : decode cL_law 445 = .ok (.iload_n 3, 1) := by decide +kernel
theorem dL_law_446 : decode cL_law 446 = .ok (.iconst 1, 1) := by decide +kernel
theorem dL_law_447 : decode cL_law 447 = .ok (.iadd, 1) := by decide +kernel
theorem dL_law_448 : decode cL_law 448 = .ok (.iaload, 1) := by decide +kernel
theorem dL_law_449 : decode cL_law 449 = .ok (.invokevirtual 63, 3) := by decide +kernel
theorem dL_law_452 : decode cL_law 452 = .ok (.aload_n 2, 1) := by decide +kernel
theorem dL_law_453 : decode cL_law 453 = .ok (.aload_n 0, 1) := by decide +kernel
theorem dL_law_454 : decode cL_law 454 = .ok (.iload_n 3, 1) := by decide +kernel
theorem dL_law_455 : decode cL_law 455 = .ok (.iconst 1, 1) := by decide +kernel
theorem dL_law_456 : decode cL_law 456 = .ok (.iadd, 1) := by decide +kernel
theorem dL_law_457 : decode cL_law 457 = .ok (.iaload, 1) := by decide +kernel
theorem dL_law_458 : decode cL_law 458 = .ok (.invokevirtual 66, 3) := by decide +kernel
theorem dL_law_461 : decode cL_law 461 = .ok (.if_icmp .eq 397, 3) := by decide +kernel
theorem dL_law_464 : decode cL_law 464 = .ok (.iconst 0, 1) := by decide +kernel
theorem dL_law_465 : decode cL_law 465 = .ok (.ireturn, 1) := by decide +kernel
theorem dL_law_466 : decode cL_law 466 = .ok (.aload_n 1, 1) := by decide +kernel
theorem dL_law_467 : decode cL_law 467 = .ok (.aload_n 0, 1) := by decide +kernel
theorem dL_law_468 : decode cL_law 468 = .ok (.iload_n 3, 1) := by decide +kernel
theorem dL_law_469 : decode cL_law 469 = .ok (.iconst 1, 1) := by decide +kernel
theorem dL_law_470 : decode cL_law 470 = .ok (.iadd, 1) := by decide +kernel
theorem dL_law_471 : decode cL_law 471 = .ok (.iaload, 1) := by decide +kernel
theorem dL_law_472 : decode cL_law 472 = .ok (.aload_n 0, 1) := by decide +kernel
theorem dL_law_473 : decode cL_law 473 = .ok (.iload_n 3, 1) := by decide +kernel
theorem dL_law_474 : decode cL_law 474 = .ok (.iconst 2, 1) := by decide +kernel
theorem dL_law_475 : decode cL_law 475 = .ok (.iadd, 1) := by decide +kernel
theorem dL_law_476 : decode cL_law 476 = .ok (.iaload, 1) := by decide +kernel
theorem dL_law_477 : decode cL_law 477 = .ok (.aload_n 0, 1) := by decide +kernel
theorem dL_law_478 : decode cL_law 478 = .ok (.iload_n 3, 1) := by decide +kernel
theorem dL_law_479 : decode cL_law 479 = .ok (.iconst 3, 1) := by decide +kernel
theorem dL_law_480 : decode cL_law 480 = .ok (.iadd, 1) := by decide +kernel
theorem dL_law_481 : decode cL_law 481 = .ok (.iaload, 1) := by decide +kernel
theorem dL_law_482 : decode cL_law 482 = .ok (.aload_n 0, 1) := by decide +kernel
theorem dL_law_483 : decode cL_law 483 = .ok (.iload_n 3, 1) := by decide +kernel
theorem dL_law_484 : decode cL_law 484 = .ok (.iconst 4, 1) := by decide +kernel
theorem dL_law_485 : decode cL_law 485 = .ok (.iadd, 1) := by decide +kernel
theorem dL_law_486 : decode cL_law 486 = .ok (.iaload, 1) := by decide +kernel
theorem dL_law_487 : decode cL_law 487 = .ok (.aload_n 0, 1) := by decide +kernel
theorem dL_law_488 : decode cL_law 488 = .ok (.iload_n 3, 1) := by decide +kernel
theorem dL_law_489 : decode cL_law 489 = .ok (.iconst 5, 1) := by decide +kernel
theorem dL_law_490 : decode cL_law 490 = .ok (.iadd, 1) := by decide +kernel
theorem dL_law_491 : decode cL_law 491 = .ok (.iaload, 1) := by decide +kernel
theorem dL_law_492 : decode cL_law 492 = .ok (.invokevirtual 67, 3) := by decide +kernel
theorem dL_law_495 : decode cL_law 495 = .ok (.aload_n 2, 1) := by decide +kernel
theorem dL_law_496 : decode cL_law 496 = .ok (.aload_n 0, 1) := by decide +kernel
theorem dL_law_497 : decode cL_law 497 = .ok (.iload_n 3, 1) := by decide +kernel
theorem dL_law_498 : decode cL_law 498 = .ok (.iconst 1, 1) := by decide +kernel
theorem dL_law_499 : decode cL_law 499 = .ok (.iadd, 1) := by decide +kernel
theorem dL_law_500 : decode cL_law 500 = .ok (.iaload, 1) := by decide +kernel
theorem dL_law_501 : decode cL_law 501 = .ok (.aload_n 0, 1) := by decide +kernel
theorem dL_law_502 : decode cL_law 502 = .ok (.iload_n 3, 1) := by decide +kernel
theorem dL_law_503 : decode cL_law 503 = .ok (.iconst 2, 1) := by decide +kernel
theorem dL_law_504 : decode cL_law 504 = .ok (.iadd, 1) := by decide +kernel
theorem dL_law_505 : decode cL_law 505 = .ok (.iaload, 1) := by decide +kernel
theorem dL_law_506 : decode cL_law 506 = .ok (.aload_n 0, 1) := by decide +kernel
theorem dL_law_507 : decode cL_law 507 = .ok (.iload_n 3, 1) := by decide +kernel
theorem dL_law_508 : decode cL_law 508 = .ok (.iconst 3, 1) := by decide +kernel
theorem dL_law_509 : decode cL_law 509 = .ok (.iadd, 1) := by decide +kernel
theorem dL_law_510 : decode cL_law 510 = .ok (.iaload, 1) := by decide +kernel
theorem dL_law_511 : decode cL_law 511 = .ok (.aload_n 0, 1) := by decide +kernel
theorem dL_law_512 : decode cL_law 512 = .ok (.iload_n 3, 1) := by decide +kernel
theorem dL_law_513 : decode cL_law 513 = .ok (.iconst 4, 1) := by decide +kernel
theorem dL_law_514 : decode cL_law 514 = .ok (.iadd, 1) := by decide +kernel
theorem dL_law_515 : decode cL_law 515 = .ok (.iaload, 1) := by decide +kernel
theorem dL_law_516 : decode cL_law 516 = .ok (.aload_n 0, 1) := by decide +kernel
theorem dL_law_517 : decode cL_law 517 = .ok (.iload_n 3, 1) := by decide +kernel
theorem dL_law_518 : decode cL_law 518 = .ok (.iconst 5, 1) := by decide +kernel
theorem dL_law_519 : decode cL_law 519 = .ok (.iadd, 1) := by decide +kernel
theorem dL_law_520 : decode cL_law 520 = .ok (.iaload, 1) := by decide +kernel
theorem dL_law_521 : decode cL_law 521 = .ok (.invokevirtual 71, 3) := by decide +kernel
theorem dL_law_524 : decode cL_law 524 = .ok (.if_icmp .eq 334, 3) := by decide +kernel
theorem dL_law_527 : decode cL_law 527 = .ok (.iconst 0, 1) := by decide +kernel
theorem dL_law_528 : decode cL_law 528 = .ok (.ireturn, 1) := by decide +kernel
theorem dL_law_529 : decode cL_law 529 = .ok (.aload_n 1, 1) := by decide +kernel
theorem dL_law_530 : decode cL_law 530 = .ok (.invokevirtual 72, 3) := by decide +kernel
theorem dL_law_533 : decode cL_law 533 = .ok (.aload_n 2, 1) := by decide +kernel
theorem dL_law_534 : decode cL_law 534 = .ok (.invokevirtual 75, 3) := by decide +kernel
theorem dL_law_537 : decode cL_law 537 = .ok (.if_icmp .eq 321, 3) := by decide +kernel
theorem dL_law_540 : decode cL_law 540 = .ok (.iconst 0, 1) := by decide +kernel
theorem dL_law_541 : decode cL_law 541 = .ok (.ireturn, 1) := by decide +kernel
theorem dL_law_542 : decode cL_law 542 = .ok (.aload_n 1, 1) := by decide +kernel
theorem dL_law_543 : decode cL_law 543 = .ok (.invokevirtual 76, 3) := by decide +kernel
theorem dL_law_546 : decode cL_law 546 = .ok (.aload_n 2, 1) := by decide +kernel
theorem dL_law_547 : decode cL_law 547 = .ok (.invokevirtual 79, 3) := by decide +kernel
theorem dL_law_550 : decode cL_law 550 = .ok (.if_icmp .eq 308, 3) := by decide +kernel
theorem dL_law_553 : decode cL_law 553 = .ok (.iconst 0, 1) := by decide +kernel
theorem dL_law_554 : decode cL_law 554 = .ok (.ireturn, 1) := by decide +kernel
theorem dL_law_555 : decode cL_law 555 = .ok (.aload_n 1, 1) := by decide +kernel
theorem dL_law_556 : decode cL_law 556 = .ok (.invokevirtual 80, 3) := by decide +kernel
theorem dL_law_559 : decode cL_law 559 = .ok (.aload_n 2, 1) := by decide +kernel
theorem dL_law_560 : decode cL_law 560 = .ok (.invokevirtual 83, 3) := by decide +kernel
theorem dL_law_563 : decode cL_law 563 = .ok (.if_icmp .eq 295, 3) := by decide +kernel
theorem dL_law_566 : decode cL_law 566 = .ok (.iconst 0, 1) := by decide +kernel
theorem dL_law_567 : decode cL_law 567 = .ok (.ireturn, 1) := by decide +kernel
theorem dL_law_568 : decode cL_law 568 = .ok (.aload_n 1, 1) := by decide +kernel
theorem dL_law_569 : decode cL_law 569 = .ok (.aload_n 0, 1) := by decide +kernel
theorem dL_law_570 : decode cL_law 570 = .ok (.iload_n 3, 1) := by decide +kernel
theorem dL_law_571 : decode cL_law 571 = .ok (.iconst 1, 1) := by decide +kernel
theorem dL_law_572 : decode cL_law 572 = .ok (.iadd, 1) := by decide +kernel
theorem dL_law_573 : decode cL_law 573 = .ok (.iaload, 1) := by decide +kernel
theorem dL_law_574 : decode cL_law 574 = .ok (.aload_n 0, 1) := by decide +kernel
theorem dL_law_575 : decode cL_law 575 = .ok (.iload_n 3, 1) := by decide +kernel
theorem dL_law_576 : decode cL_law 576 = .ok (.iconst 2, 1) := by decide +kernel
theorem dL_law_577 : decode cL_law 577 = .ok (.iadd, 1) := by decide +kernel
theorem dL_law_578 : decode cL_law 578 = .ok (.iaload, 1) := by decide +kernel
theorem dL_law_579 : decode cL_law 579 = .ok (.invokevirtual 84, 3) := by decide +kernel
theorem dL_law_582 : decode cL_law 582 = .ok (.aload_n 2, 1) := by decide +kernel
theorem dL_law_583 : decode cL_law 583 = .ok (.aload_n 0, 1) := by decide +kernel
theorem dL_law_584 : decode cL_law 584 = .ok (.iload_n 3, 1) := by decide +kernel
theorem dL_law_585 : decode cL_law 585 = .ok (.iconst 1, 1) := by decide +kernel
theorem dL_law_586 : decode cL_law 586 = .ok (.iadd, 1) := by decide +kernel
theorem dL_law_587 : decode cL_law 587 = .ok (.iaload, 1) := by decide +kernel
theorem dL_law_588 : decode cL_law 588 = .ok (.aload_n 0, 1) := by decide +kernel
theorem dL_law_589 : decode cL_law 589 = .ok (.iload_n 3, 1) := by decide +kernel
theorem dL_law_590 : decode cL_law 590 = .ok (.iconst 2, 1) := by decide +kernel
theorem dL_law_591 : decode cL_law 591 = .ok (.iadd, 1) := by decide +kernel
theorem dL_law_592 : decode cL_law 592 = .ok (.iaload, 1) := by decide +kernel
theorem dL_law_593 : decode cL_law 593 = .ok (.invokevirtual 87, 3) := by decide +kernel
theorem dL_law_596 : decode cL_law 596 = .ok (.if_icmp .eq 262, 3) := by decide +kernel
theorem dL_law_599 : decode cL_law 599 = .ok (.iconst 0, 1) := by decide +kernel
theorem dL_law_600 : decode cL_law 600 = .ok (.ireturn, 1) := by decide +kernel
theorem dL_law_601 : decode cL_law 601 = .ok (.aload_n 1, 1) := by decide +kernel
theorem dL_law_602 : decode cL_law 602 = .ok (.aload_n 0, 1) := by decide +kernel
theorem dL_law_603 : decode cL_law 603 = .ok (.iload_n 3, 1) := by decide +kernel
theorem dL_law_604 : decode cL_law 604 = .ok (.iconst 1, 1) := by decide +kernel
theorem dL_law_605 : decode cL_law 605 = .ok (.iadd, 1) := by decide +kernel
theorem dL_law_606 : decode cL_law 606 = .ok (.iaload, 1) := by decide +kernel
theorem dL_law_607 : decode cL_law 607 = .ok (.aload_n 0, 1) := by decide +kernel
theorem dL_law_608 : decode cL_law 608 = .ok (.iload_n 3, 1) := by decide +kernel
theorem dL_law_609 : decode cL_law 609 = .ok (.iconst 2, 1) := by decide +kernel
theorem dL_law_610 : decode cL_law 610 = .ok (.iadd, 1) := by decide +kernel
theorem dL_law_611 : decode cL_law 611 = .ok (.iaload, 1) := by decide +kernel
theorem dL_law_612 : decode cL_law 612 = .ok (.invokevirtual 88, 3) := by decide +kernel
theorem dL_law_615 : decode cL_law 615 = .ok (.aload_n 2, 1) := by decide +kernel
theorem dL_law_616 : decode cL_law 616 = .ok (.aload_n 0, 1) := by decide +kernel
theorem dL_law_617 : decode cL_law 617 = .ok (.iload_n 3, 1) := by decide +kernel
theorem dL_law_618 : decode cL_law 618 = .ok (.iconst 1, 1) := by decide +kernel
theorem dL_law_619 : decode cL_law 619 = .ok (.iadd, 1) := by decide +kernel
theorem dL_law_620 : decode cL_law 620 = .ok (.iaload, 1) := by decide +kernel
theorem dL_law_621 : decode cL_law 621 = .ok (.aload_n 0, 1) := by decide +kernel
theorem dL_law_622 : decode cL_law 622 = .ok (.iload_n 3, 1) := by decide +kernel
theorem dL_law_623 : decode cL_law 623 = .ok (.iconst 2, 1) := by decide +kernel
theorem dL_law_624 : decode cL_law 624 = .ok (.iadd, 1) := by decide +kernel
theorem dL_law_625 : decode cL_law 625 = .ok (.iaload, 1) := by decide +kernel
theorem dL_law_626 : decode cL_law 626 = .ok (.invokevirtual 91, 3) := by decide +kernel
theorem dL_law_629 : decode cL_law 629 = .ok (.if_icmp .eq 229, 3) := by decide +kernel
theorem dL_law_632 : decode cL_law 632 = .ok (.iconst 0, 1) := by decide +kernel
theorem dL_law_633 : decode cL_law 633 = .ok (.ireturn, 1) := by decide +kernel
theorem dL_law_634 : decode cL_law 634 = .ok (.aload_n 1, 1) := by decide +kernel
theorem dL_law_635 : decode cL_law 635 = .ok (.aload_n 0, 1) := by decide +kernel
theorem dL_law_636 : decode cL_law 636 = .ok (.iload_n 3, 1) := by decide +kernel
theorem dL_law_637 : decode cL_law 637 = .ok (.iconst 1, 1) := by decide +kernel
theorem dL_law_638 : decode cL_law 638 = .ok (.iadd, 1) := by decide +kernel
theorem dL_law_639 : decode cL_law 639 = .ok (.iaload, 1) := by decide +kernel
theorem dL_law_640 : decode cL_law 640 = .ok (.aload_n 0, 1) := by decide +kernel
theorem dL_law_641 : decode cL_law 641 = .ok (.iload_n 3, 1) := by decide +kernel
theorem dL_law_642 : decode cL_law 642 = .ok (.iconst 2, 1) := by decide +kernel
theorem dL_law_643 : decode cL_law 643 = .ok (.iadd, 1) := by decide +kernel
theorem dL_law_644 : decode cL_law 644 = .ok (.iaload, 1) := by decide +kernel
theorem dL_law_645 : decode cL_law 645 = .ok (.aload_n 0, 1) := by decide +kernel
theorem dL_law_646 : decode cL_law 646 = .ok (.iload_n 3, 1) := by decide +kernel
theorem dL_law_647 : decode cL_law 647 = .ok (.iconst 3, 1) := by decide +kernel
theorem dL_law_648 : decode cL_law 648 = .ok (.iadd, 1) := by decide +kernel
theorem dL_law_649 : decode cL_law 649 = .ok (.iaload, 1) := by decide +kernel
theorem dL_law_650 : decode cL_law 650 = .ok (.invokevirtual 92, 3) := by decide +kernel
theorem dL_law_653 : decode cL_law 653 = .ok (.aload_n 2, 1) := by decide +kernel
theorem dL_law_654 : decode cL_law 654 = .ok (.aload_n 0, 1) := by decide +kernel
theorem dL_law_655 : decode cL_law 655 = .ok (.iload_n 3, 1) := by decide +kernel
theorem dL_law_656 : decode cL_law 656 = .ok (.iconst 1, 1) := by decide +kernel
theorem dL_law_657 : decode cL_law 657 = .ok (.iadd, 1) := by decide +kernel
theorem dL_law_658 : decode cL_law 658 = .ok (.iaload, 1) := by decide +kernel
theorem dL_law_659 : decode cL_law 659 = .ok (.aload_n 0, 1) := by decide +kernel
theorem dL_law_660 : decode cL_law 660 = .ok (.iload_n 3, 1) := by decide +kernel
theorem dL_law_661 : decode cL_law 661 = .ok (.iconst 2, 1) := by decide +kernel
theorem dL_law_662 : decode cL_law 662 = .ok (.iadd, 1) := by decide +kernel
theorem dL_law_663 : decode cL_law 663 = .ok (.iaload, 1) := by decide +kernel
theorem dL_law_664 : decode cL_law 664 = .ok (.aload_n 0, 1) := by decide +kernel
theorem dL_law_665 : decode cL_law 665 = .ok (.iload_n 3, 1) := by decide +kernel
theorem dL_law_666 : decode cL_law 666 = .ok (.iconst 3, 1) := by decide +kernel
theorem dL_law_667 : decode cL_law 667 = .ok (.iadd, 1) := by decide +kernel
theorem dL_law_668 : decode cL_law 668 = .ok (.iaload, 1) := by decide +kernel
theorem dL_law_669 : decode cL_law 669 = .ok (.invokevirtual 95, 3) := by decide +kernel
theorem dL_law_672 : decode cL_law 672 = .ok (.if_icmp .eq 186, 3) := by decide +kernel
theorem dL_law_675 : decode cL_law 675 = .ok (.iconst 0, 1) := by decide +kernel
theorem dL_law_676 : decode cL_law 676 = .ok (.ireturn, 1) := by decide +kernel
theorem dL_law_677 : decode cL_law 677 = .ok (.aload_n 1, 1) := by decide +kernel
theorem dL_law_678 : decode cL_law 678 = .ok (.aload_n 0, 1) := by decide +kernel
theorem dL_law_679 : decode cL_law 679 = .ok (.iload_n 3, 1) := by decide +kernel
theorem dL_law_680 : decode cL_law 680 = .ok (.iconst 1, 1) := by decide +kernel
theorem dL_law_681 : decode cL_law 681 = .ok (.iadd, 1) := by decide +kernel
theorem dL_law_682 : decode cL_law 682 = .ok (.iaload, 1) := by decide +kernel
theorem dL_law_683 : decode cL_law 683 = .ok (.invokevirtual 96, 3) := by decide +kernel
theorem dL_law_686 : decode cL_law 686 = .ok (.aload_n 2, 1) := by decide +kernel
theorem dL_law_687 : decode cL_law 687 = .ok (.aload_n 0, 1) := by decide +kernel
theorem dL_law_688 : decode cL_law 688 = .ok (.iload_n 3, 1) := by decide +kernel
theorem dL_law_689 : decode cL_law 689 = .ok (.iconst 1, 1) := by decide +kernel
theorem dL_law_690 : decode cL_law 690 = .ok (.iadd, 1) := by decide +kernel
theorem dL_law_691 : decode cL_law 691 = .ok (.iaload, 1) := by decide +kernel
theorem dL_law_692 : decode cL_law 692 = .ok (.invokevirtual 99, 3) := by decide +kernel
theorem dL_law_695 : decode cL_law 695 = .ok (.if_icmp .eq 163, 3) := by decide +kernel
theorem dL_law_698 : decode cL_law 698 = .ok (.iconst 0, 1) := by decide +kernel
theorem dL_law_699 : decode cL_law 699 = .ok (.ireturn, 1) := by decide +kernel
theorem dL_law_700 : decode cL_law 700 = .ok (.aload_n 1, 1) := by decide +kernel
theorem dL_law_701 : decode cL_law 701 = .ok (.aload_n 0, 1) := by decide +kernel
theorem dL_law_702 : decode cL_law 702 = .ok (.iload_n 3, 1) := by decide +kernel
theorem dL_law_703 : decode cL_law 703 = .ok (.iconst 1, 1) := by decide +kernel
theorem dL_law_704 : decode cL_law 704 = .ok (.iadd, 1) := by decide +kernel
theorem dL_law_705 : decode cL_law 705 = .ok (.iaload, 1) := by decide +kernel
theorem dL_law_706 : decode cL_law 706 = .ok (.invokevirtual 100, 3) := by decide +kernel
theorem dL_law_709 : decode cL_law 709 = .ok (.aload_n 2, 1) := by decide +kernel
theorem dL_law_710 : decode cL_law 710 = .ok (.aload_n 0, 1) := by decide +kernel
theorem dL_law_711 : decode cL_law 711 = .ok (.iload_n 3, 1) := by decide +kernel
theorem dL_law_712 : decode cL_law 712 = .ok (.iconst 1, 1) := by decide +kernel
theorem dL_law_713 : decode cL_law 713 = .ok (.iadd, 1) := by decide +kernel
theorem dL_law_714 : decode cL_law 714 = .ok (.iaload, 1) := by decide +kernel
theorem dL_law_715 : decode cL_law 715 = .ok (.invokevirtual 103, 3) := by decide +kernel
theorem dL_law_718 : decode cL_law 718 = .ok (.if_icmp .eq 140, 3) := by decide +kernel
theorem dL_law_721 : decode cL_law 721 = .ok (.iconst 0, 1) := by decide +kernel
theorem dL_law_722 : decode cL_law 722 = .ok (.ireturn, 1) := by decide +kernel
theorem dL_law_723 : decode cL_law 723 = .ok (.aload_n 1, 1) := by decide +kernel
theorem dL_law_724 : decode cL_law 724 = .ok (.aload_n 0, 1) := by decide +kernel
theorem dL_law_725 : decode cL_law 725 = .ok (.iload_n 3, 1) := by decide +kernel
theorem dL_law_726 : decode cL_law 726 = .ok (.iconst 1, 1) := by decide +kernel
theorem dL_law_727 : decode cL_law 727 = .ok (.iadd, 1) := by decide +kernel
theorem dL_law_728 : decode cL_law 728 = .ok (.iaload, 1) := by decide +kernel
theorem dL_law_729 : decode cL_law 729 = .ok (.aload_n 0, 1) := by decide +kernel
theorem dL_law_730 : decode cL_law 730 = .ok (.iload_n 3, 1) := by decide +kernel
theorem dL_law_731 : decode cL_law 731 = .ok (.iconst 2, 1) := by decide +kernel
theorem dL_law_732 : decode cL_law 732 = .ok (.iadd, 1) := by decide +kernel
theorem dL_law_733 : decode cL_law 733 = .ok (.iaload, 1) := by decide +kernel
theorem dL_law_734 : decode cL_law 734 = .ok (.invokevirtual 104, 3) := by decide +kernel
theorem dL_law_737 : decode cL_law 737 = .ok (.aload_n 2, 1) := by decide +kernel
theorem dL_law_738 : decode cL_law 738 = .ok (.aload_n 0, 1) := by decide +kernel
theorem dL_law_739 : decode cL_law 739 = .ok (.iload_n 3, 1) := by decide +kernel
theorem dL_law_740 : decode cL_law 740 = .ok (.iconst 1, 1) := by decide +kernel
theorem dL_law_741 : decode cL_law 741 = .ok (.iadd, 1) := by decide +kernel
theorem dL_law_742 : decode cL_law 742 = .ok (.iaload, 1) := by decide +kernel
theorem dL_law_743 : decode cL_law 743 = .ok (.aload_n 0, 1) := by decide +kernel
theorem dL_law_744 : decode cL_law 744 = .ok (.iload_n 3, 1) := by decide +kernel
theorem dL_law_745 : decode cL_law 745 = .ok (.iconst 2, 1) := by decide +kernel
theorem dL_law_746 : decode cL_law 746 = .ok (.iadd, 1) := by decide +kernel
theorem dL_law_747 : decode cL_law 747 = .ok (.iaload, 1) := by decide +kernel
theorem dL_law_748 : decode cL_law 748 = .ok (.invokevirtual 107, 3) := by decide +kernel
theorem dL_law_751 : decode cL_law 751 = .ok (.if_icmp .eq 107, 3) := by decide +kernel
theorem dL_law_754 : decode cL_law 754 = .ok (.iconst 0, 1) := by decide +kernel
theorem dL_law_755 : decode cL_law 755 = .ok (.ireturn, 1) := by decide +kernel
theorem dL_law_756 : decode cL_law 756 = .ok (.aload_n 1, 1) := by decide +kernel
theorem dL_law_757 : decode cL_law 757 = .ok (.aload_n 0, 1) := by decide +kernel
theorem dL_law_758 : decode cL_law 758 = .ok (.iload_n 3, 1) := by decide +kernel
theorem dL_law_759 : decode cL_law 759 = .ok (.iconst 1, 1) := by decide +kernel
theorem dL_law_760 : decode cL_law 760 = .ok (.iadd, 1) := by decide +kernel
theorem dL_law_761 : decode cL_law 761 = .ok (.iaload, 1) := by decide +kernel
theorem dL_law_762 : decode cL_law 762 = .ok (.aload_n 0, 1) := by decide +kernel
theorem dL_law_763 : decode cL_law 763 = .ok (.iload_n 3, 1) := by decide +kernel
theorem dL_law_764 : decode cL_law 764 = .ok (.iconst 2, 1) := by decide +kernel
theorem dL_law_765 : decode cL_law 765 = .ok (.iadd, 1) := by decide +kernel
theorem dL_law_766 : decode cL_law 766 = .ok (.iaload, 1) := by decide +kernel
theorem dL_law_767 : decode cL_law 767 = .ok (.invokevirtual 108, 3) := by decide +kernel
theorem dL_law_770 : decode cL_law 770 = .ok (.aload_n 2, 1) := by decide +kernel
theorem dL_law_771 : decode cL_law 771 = .ok (.aload_n 0, 1) := by decide +kernel
theorem dL_law_772 : decode cL_law 772 = .ok (.iload_n 3, 1) := by decide +kernel
theorem dL_law_773 : decode cL_law 773 = .ok (.iconst 1, 1) := by decide +kernel
theorem dL_law_774 : decode cL_law 774 = .ok (.iadd, 1) := by decide +kernel
theorem dL_law_775 : decode cL_law 775 = .ok (.iaload, 1) := by decide +kernel
theorem dL_law_776 : decode cL_law 776 = .ok (.aload_n 0, 1) := by decide +kernel
theorem dL_law_777 : decode cL_law 777 = .ok (.iload_n 3, 1) := by decide +kernel
theorem dL_law_778 : decode cL_law 778 = .ok (.iconst 2, 1) := by decide +kernel
theorem dL_law_779 : decode cL_law 779 = .ok (.iadd, 1) := by decide +kernel
theorem dL_law_780 : decode cL_law 780 = .ok (.iaload, 1) := by decide +kernel
theorem dL_law_781 : decode cL_law 781 = .ok (.invokevirtual 111, 3) := by decide +kernel
theorem dL_law_784 : decode cL_law 784 = .ok (.if_icmp .eq 74, 3) := by decide +kernel
theorem dL_law_787 : decode cL_law 787 = .ok (.iconst 0, 1) := by decide +kernel
theorem dL_law_788 : decode cL_law 788 = .ok (.ireturn, 1) := by decide +kernel
theorem dL_law_789 : decode cL_law 789 = .ok (.aload_n 1, 1) := by decide +kernel
theorem dL_law_790 : decode cL_law 790 = .ok (.aload_n 0, 1) := by decide +kernel
theorem dL_law_791 : decode cL_law 791 = .ok (.iload_n 3, 1) := by decide +kernel
theorem dL_law_792 : decode cL_law 792 = .ok (.iconst 1, 1) := by decide +kernel
theorem dL_law_793 : decode cL_law 793 = .ok (.iadd, 1) := by decide +kernel
theorem dL_law_794 : decode cL_law 794 = .ok (.iaload, 1) := by decide +kernel
theorem dL_law_795 : decode cL_law 795 = .ok (.invokevirtual 112, 3) := by decide +kernel
theorem dL_law_798 : decode cL_law 798 = .ok (.aload_n 2, 1) := by decide +kernel
theorem dL_law_799 : decode cL_law 799 = .ok (.aload_n 0, 1) := by decide +kernel
theorem dL_law_800 : decode cL_law 800 = .ok (.iload_n 3, 1) := by decide +kernel
theorem dL_law_801 : decode cL_law 801 = .ok (.iconst 1, 1) := by decide +kernel
theorem dL_law_802 : decode cL_law 802 = .ok (.iadd, 1) := by decide +kernel
theorem dL_law_803 : decode cL_law 803 = .ok (.iaload, 1) := by decide +kernel
theorem dL_law_804 : decode cL_law 804 = .ok (.invokevirtual 115, 3) := by decide +kernel
theorem dL_law_807 : decode cL_law 807 = .ok (.if_icmp .eq 51, 3) := by decide +kernel
theorem dL_law_810 : decode cL_law 810 = .ok (.iconst 0, 1) := by decide +kernel
theorem dL_law_811 : decode cL_law 811 = .ok (.ireturn, 1) := by decide +kernel
theorem dL_law_812 : decode cL_law 812 = .ok (.aload_n 1, 1) := by decide +kernel
theorem dL_law_813 : decode cL_law 813 = .ok (.aload_n 0, 1) := by decide +kernel
theorem dL_law_814 : decode cL_law 814 = .ok (.iload_n 3, 1) := by decide +kernel
theorem dL_law_815 : decode cL_law 815 = .ok (.iconst 1, 1) := by decide +kernel
theorem dL_law_816 : decode cL_law 816 = .ok (.iadd, 1) := by decide +kernel
theorem dL_law_817 : decode cL_law 817 = .ok (.iaload, 1) := by decide +kernel
theorem dL_law_818 : decode cL_law 818 = .ok (.invokevirtual 116, 3) := by decide +kernel
theorem dL_law_821 : decode cL_law 821 = .ok (.aload_n 2, 1) := by decide +kernel
theorem dL_law_822 : decode cL_law 822 = .ok (.aload_n 0, 1) := by decide +kernel
theorem dL_law_823 : decode cL_law 823 = .ok (.iload_n 3, 1) := by decide +kernel
theorem dL_law_824 : decode cL_law 824 = .ok (.iconst 1, 1) := by decide +kernel
theorem dL_law_825 : decode cL_law 825 = .ok (.iadd, 1) := by decide +kernel
theorem dL_law_826 : decode cL_law 826 = .ok (.iaload, 1) := by decide +kernel
theorem dL_law_827 : decode cL_law 827 = .ok (.invokevirtual 119, 3) := by decide +kernel
theorem dL_law_830 : decode cL_law 830 = .ok (.if_icmp .eq 28, 3) := by decide +kernel
theorem dL_law_833 : decode cL_law 833 = .ok (.iconst 0, 1) := by decide +kernel
theorem dL_law_834 : decode cL_law 834 = .ok (.ireturn, 1) := by decide +kernel
theorem dL_law_835 : decode cL_law 835 = .ok (.aload_n 1, 1) := by decide +kernel
theorem dL_law_836 : decode cL_law 836 = .ok (.aload_n 0, 1) := by decide +kernel
theorem dL_law_837 : decode cL_law 837 = .ok (.iload_n 3, 1) := by decide +kernel
theorem dL_law_838 : decode cL_law 838 = .ok (.iconst 1, 1) := by decide +kernel
theorem dL_law_839 : decode cL_law 839 = .ok (.iadd, 1) := by decide +kernel
theorem dL_law_840 : decode cL_law 840 = .ok (.iaload, 1) := by decide +kernel
theorem dL_law_841 : decode cL_law 841 = .ok (.invokevirtual 120, 3) := by decide +kernel
theorem dL_law_844 : decode cL_law 844 = .ok (.aload_n 2, 1) := by decide +kernel
theorem dL_law_845 : decode cL_law 845 = .ok (.aload_n 0, 1) := by decide +kernel
theorem dL_law_846 : decode cL_law 846 = .ok (.iload_n 3, 1) := by decide +kernel
theorem dL_law_847 : decode cL_law 847 = .ok (.iconst 1, 1) := by decide +kernel
theorem dL_law_848 : decode cL_law 848 = .ok (.iadd, 1) := by decide +kernel
theorem dL_law_849 : decode cL_law 849 = .ok (.iaload, 1) := by decide +kernel
theorem dL_law_850 : decode cL_law 850 = .ok (.invokevirtual 123, 3) := by decide +kernel
theorem dL_law_853 : decode cL_law 853 = .ok (.if_icmp .eq 5, 3) := by decide +kernel
theorem dL_law_856 : decode cL_law 856 = .ok (.iconst 0, 1) := by decide +kernel
theorem dL_law_857 : decode cL_law 857 = .ok (.ireturn, 1) := by decide +kernel
theorem dL_law_858 : decode cL_law 858 = .ok (.iinc 3 6, 3) := by decide +kernel
theorem dL_law_861 : decode cL_law 861 = .ok (.goto (-843), 3) := by decide +kernel
theorem dL_law_864 : decode cL_law 864 = .ok (.iconst 1, 1) := by decide +kernel
theorem dL_law_865 : decode cL_law 865 = .ok (.ireturn, 1) := by decide +kernel
end
section
/-! THE MODEL'S HEAP: ints, longs, references (0: null), what each cell is (kind, length), how many cells; the cell a of the model is the machine's cell base + a -/
abbrev Hp : Type := (Nat → Nat → Int32) × (Nat → Nat → Int64) × (Nat → Nat → Nat) × (Nat → Nat × Nat) × Nat
def hI (h : Hp) : Nat → Nat → Int32 := h.1
def hL (h : Hp) : Nat → Nat → Int64 := h.2.1
def hR (h : Hp) : Nat → Nat → Nat := h.2.2.1
def hT (h : Hp) : Nat → Nat × Nat := h.2.2.2.1
def hN (h : Hp) : Nat := h.2.2.2.2
def up2 {α : Type} (f : Nat → Nat → α) (a k : Nat) (v : α) : Nat → Nat → α := fun b j => if b = a ∧ j = k then v else f b j
def zr2 {α : Type} (f : Nat → Nat → α) (a : Nat) (v : α) : Nat → Nat → α := fun b j => if b = a then v else f b j
def sI (h : Hp) (a k : Nat) (v : Int32) : Hp := (up2 (hI h) a k v, hL h, hR h, hT h, hN h)
def sL (h : Hp) (a k : Nat) (v : Int64) : Hp := (hI h, up2 (hL h) a k v, hR h, hT h, hN h)
def sR (h : Hp) (a k : Nat) (v : Nat) : Hp := (hI h, hL h, up2 (hR h) a k v, hT h, hN h)
def nO (h : Hp) (c n : Nat) : Hp := (zr2 (hI h) (hN h + 1) 0, zr2 (hL h) (hN h + 1) 0, zr2 (hR h) (hN h + 1) 0, fun b => if b = hN h + 1 then (c, n) else hT h b, hN h + 1)
theorem up2_ne {α : Type} (f : Nat → Nat → α) {a b : Nat} (k : Nat) (v : α) (h : b ≠ a) : up2 f a k v b = f b := by
  funext j
  simp [up2, h]
theorem up2_eq {α : Type} (f : Nat → Nat → α) (a k : Nat) (v : α) : up2 f a k v a = fun j => if j = k then v else f a j := by
  funext j
  simp [up2]
theorem zr2_ne {α : Type} (f : Nat → Nat → α) {a b : Nat} (v : α) (h : b ≠ a) : zr2 f a v b = f b := by
  funext j
  simp [zr2, h]
theorem zr2_eq {α : Type} (f : Nat → Nat → α) (a : Nat) (v : α) : zr2 f a v a = fun _ => v := by
  funext j
  simp [zr2]
/-- the kind of a field: 0 int, 1 long, 2 a reference, 3 boolean; the number of a class's fields -/
def fk (c k : Nat) : Nat := match c with
  | 0 => 2
  | 1 => if k = 0 then 2 else 0
  | 2 => if k = 0 then 2 else 0
  | 4 => if k = 0 then 0 else 2
  | 5 => if k = 0 then 2 else 0
  | 6 => if k < 3 then 2 else if k = 7 then 3 else 0
  | 7 => if k = 0 then 2 else if k = 6 then 1 else 0
  | 8 => if k = 6 then 3 else 2
  | 9 => if k = 3 ∨ k = 5 ∨ k = 7 ∨ k = 10 then 0 else 2
  | _ => 0
def nf (c : Nat) : Nat := match c with
  | 0 => 3 | 1 => 2 | 2 => 10 | 3 => 5 | 4 => 3 | 5 => 2 | 6 => 11 | 7 => 8 | 8 => 7 | 9 => 13 | _ => 0
def rA (base r : Nat) : Option Nat := if r = 0 then none else some (base + r)
def fv (base : Nat) (i : Nat → Int32) (g : Nat → Int64) (r : Nat → Nat) (c k : Nat) : Value :=
  if fk c k = 1 then .long (g k) else if fk c k = 2 then va_rf (rA base (r k)) else .int (i k)
/-- the kinds of cells: 0 to 9 objects of the classes of vwCl; 20 ints, 21 chars, 22 Houses, 23 Leases, 24 Streets -/
def cE (base : Nat) (cA : Nat → ClassId) (t : Nat × Nat) (i : Nat → Int32) (g : Nat → Int64) (r : Nat → Nat) : va_E :=
  if t.1 < 20 then .inr (t.1, (List.range (nf t.1)).map (fv base i g r t.1)) else if t.1 < 22 then .inl (cA t.1, t.2, .inl i) else .inl (cA t.1, t.2, .inr (.inr (.inr (.inr (fun j => rA base (r j))))))
def hE (base : Nat) (cA : Nat → ClassId) (h : Hp) (a : Nat) : va_E := cE base cA (hT h a) (hI h a) (hL h a) (hR h a)
def wld (base : Nat) (cA : Nat → ClassId) (h : Hp) : va_W := (List.range' (base + 1) (hN h)).map (fun q => (q, hE base cA h (q - base)))
def AA (base : Nat) : Nat → Prop := fun q => base + 1 ≤ q
def Rp (base : Nat) (D : va_G) (cA : Nat → ClassId) (h : Hp) (H : Heap) : Prop := H.size = base + 1 + hN h ∧ va_P D vwCl (wld base cA h) H ∧ ∀ a : Nat, (hT h a).1 < 99 → 1 ≤ a ∧ a ≤ hN h
theorem wld_at {base : Nat} {cA : Nat → ClassId} (h : Hp) (j : Nat) : (wld base cA h)[j]? = if j < hN h then some (base + 1 + j, hE base cA h (j + 1)) else none := by
  unfold wld
  rw [List.getElem?_map]
  by_cases hj : j < hN h
  · rw [List.getElem?_range' hj, if_pos hj]
    simp only [Option.map_some, Nat.one_mul]
    rw [show base + 1 + j - base = j + 1 by omega]
  · rw [List.getElem?_eq_none (by rw [List.length_range']; omega), if_neg hj]
    rfl
theorem wld_get {base : Nat} {cA : Nat → ClassId} (h : Hp) {a : Nat} (h1 : 1 ≤ a) (h2 : a ≤ hN h) : (wld base cA h)[a - 1]? = some (base + a, hE base cA h a) := by
  rw [wld_at, if_pos (by omega), show base + 1 + (a - 1) = base + a by omega, show a - 1 + 1 = a by omega]
theorem wld_D {base : Nat} {cA : Nat → ClassId} (h : Hp) : va_D (AA base) (wld base cA h) := by
  refine ⟨fun i j p q hi hj e => ?_, fun k q hk => ?_⟩
  · rw [wld_at] at hi hj
    split at hi <;> cases hi
    split at hj <;> cases hj
    dsimp only at e
    omega
  · rw [wld_at] at hk
    split at hk <;> cases hk
    show base + 1 ≤ base + 1 + k
    omega
theorem wld_set {base : Nat} {cA : Nat → ClassId} {h h' : Hp} {a : Nat} {e : va_E} (hn : hN h' = hN h) (h1 : 1 ≤ a) (h2 : a ≤ hN h) (he : hE base cA h' a = e) (ho : ∀ b : Nat, b ≠ a → hE base cA h' b = hE base cA h b) : (wld base cA h).set (a - 1) (base + a, e) = wld base cA h' := by
  apply List.ext_getElem?
  intro j
  by_cases hj : j = a - 1
  · subst hj
    have hl : a - 1 < (wld base cA h).length := by
      unfold wld
      rw [List.length_map, List.length_range']
      omega
    rw [List.getElem?_set_self hl, wld_at, if_pos (by omega), ← he, show base + 1 + (a - 1) = base + a by omega, show a - 1 + 1 = a by omega]
  · rw [List.getElem?_set_ne (Ne.symm hj), wld_at, wld_at, hn]
    split
    · rw [ho (j + 1) (by omega)]
    · rfl
theorem wld_push {base : Nat} {cA : Nat → ClassId} {h h' : Hp} {e : va_E} (hn : hN h' = hN h + 1) (he : hE base cA h' (hN h + 1) = e) (ho : ∀ b : Nat, b ≠ hN h + 1 → hE base cA h' b = hE base cA h b) : wld base cA h ++ [(base + 1 + hN h, e)] = wld base cA h' := by
  have hl : (wld base cA h).length = hN h := by
    unfold wld
    rw [List.length_map, List.length_range']
  apply List.ext_getElem?
  intro j
  rcases Nat.lt_trichotomy j (hN h) with hj | hj | hj
  · rw [List.getElem?_append_left (by omega), wld_at, wld_at, if_pos hj, if_pos (by omega), ho (j + 1) (by omega)]
  · subst hj
    rw [List.getElem?_append_right (by omega), hl, Nat.sub_self, wld_at, if_pos (by omega), he]
    rfl
  · rw [List.getElem?_append_right (by omega), hl, wld_at, if_neg (by omega)]
    exact List.getElem?_eq_none (by simp only [List.length_singleton]; omega)
theorem hE_obj {base : Nat} {cA : Nat → ClassId} {h : Hp} {a c : Nat} (hc : (hT h a).1 = c) (h10 : c < 20) : hE base cA h a = .inr (c, (List.range (nf c)).map (fv base (hI h a) (hL h a) (hR h a) c)) := by
  subst hc
  unfold hE cE
  rw [if_pos h10]
theorem hE_int {base : Nat} {cA : Nat → ClassId} {h : Hp} {a c : Nat} (hc : (hT h a).1 = c) (h1 : 20 ≤ c) (h2 : c < 22) : hE base cA h a = .inl (cA c, (hT h a).2, .inl (hI h a)) := by
  subst hc
  unfold hE cE
  rw [if_neg (by omega), if_pos h2]
theorem hE_ref {base : Nat} {cA : Nat → ClassId} {h : Hp} {a c : Nat} (hc : (hT h a).1 = c) (h1 : 22 ≤ c) : hE base cA h a = .inl (cA c, (hT h a).2, .inr (.inr (.inr (.inr (fun j => rA base (hR h a j)))))) := by
  subst hc
  unfold hE cE
  rw [if_neg (by omega), if_neg (by omega)]
theorem fv_set {base : Nat} {i i' : Nat → Int32} {g g' : Nat → Int64} {r r' : Nat → Nat} {c k : Nat} {v : Value} (hk : fv base i' g' r' c k = v) (ho : ∀ j, j ≠ k → fv base i' g' r' c j = fv base i g r c j) : ((List.range (nf c)).map (fv base i g r c)).set k v = (List.range (nf c)).map (fv base i' g' r' c) := by
  apply List.ext_getElem?
  intro j
  by_cases hj : j = k
  · subst hj
    by_cases hl : j < nf c
    · rw [List.getElem?_set_self (by rw [List.length_map, List.length_range]; exact hl), List.getElem?_map, List.getElem?_range hl, ← hk]
      rfl
    · rw [List.getElem?_eq_none (by rw [List.length_set, List.length_map, List.length_range]; omega), List.getElem?_eq_none (by rw [List.length_map, List.length_range]; omega)]
  · rw [List.getElem?_set_ne (Ne.symm hj), List.getElem?_map, List.getElem?_map]
    by_cases hl : j < nf c
    · rw [List.getElem?_range hl]
      simp only [Option.map_some]
      rw [ho j hj]
    · rw [List.getElem?_eq_none (by rw [List.length_range]; omega)]
      rfl
theorem fv_at {base : Nat} {i : Nat → Int32} {g : Nat → Int64} {r : Nat → Nat} {c k : Nat} (hk : k < nf c) : ((List.range (nf c)).map (fv base i g r c))[k]? = some (fv base i g r c k) := by
  rw [List.getElem?_map, List.getElem?_range hk]
  rfl
theorem hE_sI {base : Nat} {cA : Nat → ClassId} {h : Hp} {a k : Nat} {v : Int32} {b : Nat} (hb : b ≠ a) : hE base cA (sI h a k v) b = hE base cA h b := by
  show cE base cA (hT h b) (up2 (hI h) a k v b) (hL h b) (hR h b) = _
  rw [up2_ne _ _ _ hb]
  rfl
theorem hE_sL {base : Nat} {cA : Nat → ClassId} {h : Hp} {a k : Nat} {v : Int64} {b : Nat} (hb : b ≠ a) : hE base cA (sL h a k v) b = hE base cA h b := by
  show cE base cA (hT h b) (hI h b) (up2 (hL h) a k v b) (hR h b) = _
  rw [up2_ne _ _ _ hb]
  rfl
theorem hE_sR {base : Nat} {cA : Nat → ClassId} {h : Hp} {a k : Nat} {v : Nat} {b : Nat} (hb : b ≠ a) : hE base cA (sR h a k v) b = hE base cA h b := by
  show cE base cA (hT h b) (hI h b) (hL h b) (up2 (hR h) a k v b) = _
  rw [up2_ne _ _ _ hb]
  rfl
theorem hE_nO {base : Nat} {cA : Nat → ClassId} {h : Hp} {c n : Nat} {b : Nat} (hb : b ≠ hN h + 1) : hE base cA (nO h c n) b = hE base cA h b := by
  show cE base cA (if b = hN h + 1 then (c, n) else hT h b) (zr2 (hI h) (hN h + 1) 0 b) (zr2 (hL h) (hN h + 1) 0 b) (zr2 (hR h) (hN h + 1) 0 b) = _
  rw [zr2_ne _ _ hb, zr2_ne _ _ hb, zr2_ne _ _ hb, if_neg hb]
  rfl
theorem hE_nO_self {base : Nat} {cA : Nat → ClassId} {h : Hp} {c n : Nat} : hE base cA (nO h c n) (hN h + 1) = cE base cA (c, n) (fun _ => 0) (fun _ => 0) (fun _ => 0) := by
  show cE base cA (if hN h + 1 = hN h + 1 then (c, n) else hT h (hN h + 1)) (zr2 (hI h) (hN h + 1) 0 (hN h + 1)) (zr2 (hL h) (hN h + 1) 0 (hN h + 1)) (zr2 (hR h) (hN h + 1) 0 (hN h + 1)) = _
  rw [zr2_eq, zr2_eq, zr2_eq, if_pos rfl]
/-- the words that all methods share; what else a method's start says of the launch -/
def wsA : List Cond := lw_tbl.filter goodWord
def kTy : Nat → FieldType := fun k => match k with
  | 20 => .int
  | 21 => .char
  | 22 => .object RX2
  | 23 => .object RX3
  | _ => .object RX6
def tyL (cA : Nat → ClassId) : List (ClassId × FieldType) := [(cA 20, .int), (cA 21, .char), (cA 22, .object RX2), (cA 23, .object RX3), (cA 24, .object RX6)]
def leastS : Nat → Int32 := fun k => match k with
  | 0 => 1000
  | 1 => 0
  | 2 => 10
  | _ => 20
def mostS : Nat → Int32 := fun k => match k with
  | 0 => 60000
  | 1 => 900
  | 2 => 2000
  | _ => 60
def LowS (base : Nat) (U : State) (H : Heap) : Prop :=
  va_Nw (.methodLinkNest RX8 31 yX0_init RX8) U ∧ va_Nw (.methodLinkNest RX8 38 yX5_init RX8) U ∧ va_Nw (.methodLinkNest RX6 61 yX3_init RX8) U ∧ va_Nw (.methodLinkNest RX6 69 yX8_isWithin RX8) U ∧ va_Nw (.methodLinkNest RX4 37 yX8_isWithin RX8) U ∧
  va_AO RX2 U ∧ va_AO RX3 U ∧ va_AO RX6 U ∧ ∃ b1 b2 : Nat, b1 ≤ base ∧ b2 ≤ base ∧ va_Z RX8 "LEAST_SETTING" "[I" (.ref b1) (AA base) U H ∧ va_Z RX8 "MOST_SETTING" "[I" (.ref b2) (AA base) U H ∧ va_X b1 4 leastS U H ∧ va_X b2 4 mostS U H
end
section
/-! THE JUDGEMENT OVER THE MODEL'S HEAP: GW .. h cells slots pc lv st: from the instruction pc, with locals lv and operand stack st, over any machine's heap that holds h, the machine comes to Q -/
def GC (base : Nat) (D : va_G) (cA : Nat → ClassId) (p : Program) (s : State) (m : MethodId) (args : Array Value) (meth : Method) (c : Code) (cc : ByteArray) (nL : Nat) (own : String) : Prop :=
  p.tables.exec = Jvm.exec ∧ c.code = cc ∧ c.maxLocals = nL ∧ s.vm.findClass own = some m.cls ∧ (∀ w ∈ wsA, w.before args s = true) ∧ va_K D vwCl (tyL cA) s ∧ meth.locks = false ∧ base + 1 ≤ s.heap.size ∧ LowS base s s.heap
def GW (base : Nat) (D : va_G) (cA : Nat → ClassId) (p : Program) (l : Launch) (e : Env) (R : Room) (s : State) (m : MethodId) (args : Array Value) (below : List Frame) (meth : Method) (c : Code) (Q : State → Prop) (nL : Nat) (h : Hp) (cells slots pc : Nat) (lv : List (Nat × Value)) (st : List Value) : Prop :=
  ∀ (H : Heap) (locs : List Loc) (ls : Array Slot), Rp base D cA h H → va_S (AA base) s.heap H locs → lv_has ls nL lv → W p l e R s m args below meth c H locs cells slots Q (F0 m pc ls st)
/-- a store's new list of locals -/
def lS (i : Nat) (v : Value) (lv : List (Nat × Value)) : List (Nat × Value) := (i, v) :: lv.filter (fun q => !(q.1 == i) && !(q.1 + 1 == i && q.2.category == 2))
/-- a field's link: own class, its constant's place, the class's number, the field's place, its kind -/
def FL (own : String) (idx ci k : Nat) (ty : FieldType) : Prop :=
  ∃ (C : String) (T : u_T) (N : Nat), vwCl[ci]? = some (C, T, N) ∧ ci < 20 ∧ N = nf ci ∧ k < N ∧ (∀ w ∈ u_ws C T N, w ∈ lw_tbl) ∧ Cond.fieldLink own idx (T k).1 (T k).2.1 (T k).2.2.1 ∈ wsA ∧ parseFieldDescriptor (T k).2.2.1 = some ty
/-- what a store into a field wants besides: its class's names are apart, and the field isn't final (fin = false), or final and of the own class -/
def FP (own : String) (ci k : Nat) (fin : Bool) : Prop :=
  ∃ (C : String) (T : u_T) (N : Nat) (ty0 : Nat → FieldType), vwCl[ci]? = some (C, T, N) ∧ (∀ j, j < N → parseFieldDescriptor (T j).2.2.1 = some (ty0 j)) ∧ (∀ a, a < N → ∀ b, b < N → a ≠ b → (T a).2.1 ≠ (T b).2.1) ∧ (T k).2.2.2 = fin ∧ (fin = true → (T k).1 = own)
theorem wsA_lays {C : String} {T : u_T} {N : Nat} (h : ∀ w ∈ u_ws C T N, w ∈ lw_tbl) : ∀ w ∈ u_ws C T N, w ∈ wsA := by
  intro w hw
  refine List.mem_filter.mpr ⟨h w hw, ?_⟩
  obtain ⟨k, -, rfl⟩ := List.mem_map.mp hw
  unfold u_lay
  split <;> rfl
abbrev Rv (α : Type) : Type := Option (α × Hp)
def getI {α : Type} (h : Hp) (a c k : Nat) (f : Int32 → Option α) : Option α := if (hT h a).1 = c then f (hI h a k) else none
def getL {α : Type} (h : Hp) (a c k : Nat) (f : Int64 → Option α) : Option α := if (hT h a).1 = c then f (hL h a k) else none
def getR {α : Type} (h : Hp) (a c k : Nat) (f : Nat → Option α) : Option α := if (hT h a).1 = c ∧ hR h a k ≠ 0 then f (hR h a k) else none
def putI {α : Type} (h : Hp) (a c k : Nat) (v : Int32) (f : Hp → Option α) : Option α := if (hT h a).1 = c then f (sI h a k v) else none
def putZ {α : Type} (h : Hp) (a c k : Nat) (v : Int32) (f : Hp → Option α) : Option α := if (hT h a).1 = c ∧ (v = 0 ∨ v = 1) then f (sI h a k v) else none
def putL {α : Type} (h : Hp) (a c k : Nat) (v : Int64) (f : Hp → Option α) : Option α := if (hT h a).1 = c then f (sL h a k v) else none
def putR {α : Type} (h : Hp) (a c k : Nat) (v : Nat) (f : Hp → Option α) : Option α := if (hT h a).1 = c ∧ v ≠ 0 then f (sR h a k v) else none
def ldI {α : Type} (h : Hp) (a c : Nat) (i : Int32) (f : Int32 → Option α) : Option α := if (hT h a).1 = c ∧ (0 ≤ i ∧ i.toNatClampNeg < (hT h a).2) then f (hI h a i.toNatClampNeg) else none
def ldR {α : Type} (h : Hp) (a c : Nat) (i : Int32) (f : Nat → Option α) : Option α := if (hT h a).1 = c ∧ (0 ≤ i ∧ i.toNatClampNeg < (hT h a).2) ∧ hR h a i.toNatClampNeg ≠ 0 then f (hR h a i.toNatClampNeg) else none
def stI {α : Type} (h : Hp) (a c : Nat) (i v : Int32) (f : Hp → Option α) : Option α := if (hT h a).1 = c ∧ (0 ≤ i ∧ i.toNatClampNeg < (hT h a).2) then f (sI h a i.toNatClampNeg v) else none
def stR {α : Type} (h : Hp) (a c cv : Nat) (i : Int32) (v : Nat) (f : Hp → Option α) : Option α := if (hT h a).1 = c ∧ (0 ≤ i ∧ i.toNatClampNeg < (hT h a).2) ∧ (hT h v).1 = cv then f (sR h a i.toNatClampNeg v) else none
def divI {α : Type} (x y : Int32) (f : Int32 → Option α) : Option α := if y = 0 then none else f (x / y)
def divL {α : Type} (x y : Int64) (f : Int64 → Option α) : Option α := if y = 0 then none else f (x / y)
def newO {α : Type} (h : Hp) (c : Nat) (f : Nat → Hp → Option α) : Option α := f (hN h + 1) (nO h c 0)
def newA {α : Type} (h : Hp) (c : Nat) (n : Int32) (cap : Nat) (f : Nat → Hp → Option α) : Option α := if 0 ≤ n ∧ n.toNatClampNeg ≤ cap then f (hN h + 1) (nO h c n.toNatClampNeg) else none
def bnd {α β : Type} (o : Rv α) (f : α → Hp → Option β) : Option β := match o with
  | none => none
  | some (r, h) => f r h
/-- a call of a method of an object: its kind is looked at -/
def inv {α β : Type} (h : Hp) (a c : Nat) (o : Rv α) (f : α → Hp → Option β) : Option β := if (hT h a).1 = c then bnd o f else none
def retI (v : Int32) (h : Hp) : Rv Int32 := some (v, h)
def retZ (v : Int32) (h : Hp) : Rv Int32 := if v = 0 ∨ v = 1 then some (v, h) else none
def retC (v : Int32) (h : Hp) : Rv Int32 := if vp_nar .char v = v then some (v, h) else none
def retR (v : Nat) (h : Hp) : Rv Nat := some (v, h)
def retU (h : Hp) : Rv Unit := some ((), h)
theorem bnd_some {α β : Type} {o : Rv α} {f : α → Hp → Option β} {x : β} (E : bnd o f = some x) : ∃ (r : α) (h : Hp), o = some (r, h) ∧ f r h = some x := by
  cases o with
  | none => cases E
  | some q => exact ⟨q.1, q.2, rfl, E⟩
theorem ite_some {α : Type} {P : Prop} [Decidable P] {a : Option α} {x : α} (E : (if P then a else none) = some x) : P ∧ a = some x := by
  by_cases h : P
  · rw [if_pos h] at E
    exact ⟨h, E⟩
  · rw [if_neg h] at E
    cases E
theorem ite_some2 {α : Type} {P : Prop} [Decidable P] {a : Option α} {x : α} (E : (if P then none else a) = some x) : ¬ P ∧ a = some x := by
  by_cases h : P
  · rw [if_pos h] at E
    cases E
  · rw [if_neg h] at E
    exact ⟨h, E⟩
theorem vpin_of {i : Int32} {n : Nat} (h : 0 ≤ i ∧ i.toNatClampNeg < n) : vp_in i n := fun q => q.elim (fun z => absurd z (Int32.not_lt.mpr h.1)) (fun z => absurd z (Nat.not_le.mpr h.2))
section GROWS
variable {base : Nat} {D : va_G} {cA : Nat → ClassId} {p : Program} {l : Launch} {e : Env} {R : Room} {s : State} {m : MethodId} {args : Array Value} {below : List Frame} {meth : Method} {c : Code} {Q : State → Prop} {nL : Nat} {h : Hp} {cells slots pc : Nat} {lv : List (Nat × Value)} {st : List Value} {cc : ByteArray} {own : String}
theorem g_iconst (C : GC base D cA p s m args meth c cc nL own) {n : Int} (v : Int32) (d : decode cc pc = .ok (.iconst n, 1)) (hv : Int32.ofInt n = v) (kk : GW base D cA p l e R s m args below meth c Q nL h cells slots (pc + 1) lv (.int v :: st)) : GW base D cA p l e R s m args below meth c Q nL h cells slots pc lv st :=
  fun H locs ls hR hS hl => lv_iconst C.1 C.2.1 d hv (kk H locs ls hR hS hl)
theorem g_bipush (C : GC base D cA p s m args meth c cc nL own) {n : Int} (v : Int32) (d : decode cc pc = .ok (.bipush n, 2)) (hv : (Int8.ofInt n).toInt32 = v) (kk : GW base D cA p l e R s m args below meth c Q nL h cells slots (pc + 2) lv (.int v :: st)) : GW base D cA p l e R s m args below meth c Q nL h cells slots pc lv st :=
  fun H locs ls hR hS hl => lv_bipush C.1 C.2.1 d hv (kk H locs ls hR hS hl)
theorem g_sipush (C : GC base D cA p s m args meth c cc nL own) {n : Int} (v : Int32) (d : decode cc pc = .ok (.sipush n, 3)) (hv : (Int16.ofInt n).toInt32 = v) (kk : GW base D cA p l e R s m args below meth c Q nL h cells slots (pc + 3) lv (.int v :: st)) : GW base D cA p l e R s m args below meth c Q nL h cells slots pc lv st :=
  fun H locs ls hR hS hl => lv_sipush C.1 C.2.1 d hv (kk H locs ls hR hS hl)
theorem g_lconst (C : GC base D cA p s m args meth c cc nL own) {n : Fin 2} (v : Int64) (d : decode cc pc = .ok (.lconst n, 1)) (hv : Int64.ofNat (n : Nat) = v) (kk : GW base D cA p l e R s m args below meth c Q nL h cells slots (pc + 1) lv (.long v :: st)) : GW base D cA p l e R s m args below meth c Q nL h cells slots pc lv st :=
  fun H locs ls hR hS hl => lv_lconst C.1 C.2.1 d hv (kk H locs ls hR hS hl)
theorem g_ldc (C : GC base D cA p s m args meth c cc nL own) {idx : Nat} (v : Int32) (d : decode cc pc = .ok (.ldc idx, 2)) (hw : Jvm.Cond.constant own idx v ∈ wsA) (kk : GW base D cA p l e R s m args below meth c Q nL h cells slots (pc + 2) lv (.int v :: st)) : GW base D cA p l e R s m args below meth c Q nL h cells slots pc lv st :=
  fun H locs ls hR hS hl => lv_ldc C.1 C.2.1 C.2.2.2.1 (C.2.2.2.2.1 _ hw) d (kk H locs ls hR hS hl)
theorem g_ldc2 (C : GC base D cA p s m args meth c cc nL own) {idx : Nat} (v : Int64) (d : decode cc pc = .ok (.ldc2_w idx, 3)) (hw : Jvm.Cond.constantLong own idx v ∈ wsA) (kk : GW base D cA p l e R s m args below meth c Q nL h cells slots (pc + 3) lv (.long v :: st)) : GW base D cA p l e R s m args below meth c Q nL h cells slots pc lv st :=
  fun H locs ls hR hS hl => lv_ldc2 C.1 C.2.1 C.2.2.2.1 (C.2.2.2.2.1 _ hw) d (kk H locs ls hR hS hl)
theorem g_iload_n (C : GC base D cA p s m args meth c cc nL own) {k : Fin 4} {i : Nat} {x : Int32} (q : Nat) (d : decode cc pc = .ok (.iload_n k, 1)) (hq : lv[q]? = some (i, .int x)) (hi : (k : Nat) = i) (kk : GW base D cA p l e R s m args below meth c Q nL h cells slots (pc + 1) lv (.int x :: st)) : GW base D cA p l e R s m args below meth c Q nL h cells slots pc lv st :=
  fun H locs ls hR hS hl => lv_iload_n C.1 C.2.1 d hi (lv_at hl q hq) (kk H locs ls hR hS hl)
theorem g_iload (C : GC base D cA p s m args meth c cc nL own) {i : Nat} {x : Int32} (q : Nat) (d : decode cc pc = .ok (.iload i, 2)) (hq : lv[q]? = some (i, .int x)) (kk : GW base D cA p l e R s m args below meth c Q nL h cells slots (pc + 2) lv (.int x :: st)) : GW base D cA p l e R s m args below meth c Q nL h cells slots pc lv st :=
  fun H locs ls hR hS hl => lv_iload C.1 C.2.1 d (lv_at hl q hq) (kk H locs ls hR hS hl)
theorem g_lload_n (C : GC base D cA p s m args meth c cc nL own) {k : Fin 4} {i : Nat} {x : Int64} (q : Nat) (d : decode cc pc = .ok (.lload_n k, 1)) (hq : lv[q]? = some (i, .long x)) (hi : (k : Nat) = i) (kk : GW base D cA p l e R s m args below meth c Q nL h cells slots (pc + 1) lv (.long x :: st)) : GW base D cA p l e R s m args below meth c Q nL h cells slots pc lv st :=
  fun H locs ls hR hS hl => lv_lload_n C.1 C.2.1 d hi (lv_at hl q hq) (kk H locs ls hR hS hl)
theorem g_aload_n (C : GC base D cA p s m args meth c cc nL own) {k : Fin 4} {i x : Nat} (q : Nat) (d : decode cc pc = .ok (.aload_n k, 1)) (hq : lv[q]? = some (i, .ref x)) (hi : (k : Nat) = i) (kk : GW base D cA p l e R s m args below meth c Q nL h cells slots (pc + 1) lv (.ref x :: st)) : GW base D cA p l e R s m args below meth c Q nL h cells slots pc lv st :=
  fun H locs ls hR hS hl => lv_aload_n C.1 C.2.1 d hi (lv_at hl q hq) (kk H locs ls hR hS hl)
theorem g_aload (C : GC base D cA p s m args meth c cc nL own) {i x : Nat} (q : Nat) (d : decode cc pc = .ok (.aload i, 2)) (hq : lv[q]? = some (i, .ref x)) (kk : GW base D cA p l e R s m args below meth c Q nL h cells slots (pc + 2) lv (.ref x :: st)) : GW base D cA p l e R s m args below meth c Q nL h cells slots pc lv st :=
  fun H locs ls hR hS hl => lv_aload C.1 C.2.1 d (lv_at hl q hq) (kk H locs ls hR hS hl)
theorem g_istore_n (C : GC base D cA p s m args meth c cc nL own) {k : Fin 4} {i : Nat} {x : Int32} {lv' : List (Nat × Value)} (d : decode cc pc = .ok (.istore_n k, 1)) (hi : (k : Nat) = i) (hn : i < nL) (hl' : lS i (.int x) lv = lv') (kk : GW base D cA p l e R s m args below meth c Q nL h cells slots (pc + 1) lv' st) : GW base D cA p l e R s m args below meth c Q nL h cells slots pc lv (.int x :: st) :=
  fun H locs ls hR hS hl => lv_istore_n C.1 C.2.1 d hi hl hn hl' (fun ls' hl2 => kk H locs ls' hR hS hl2)
theorem g_istore (C : GC base D cA p s m args meth c cc nL own) {i : Nat} {x : Int32} {lv' : List (Nat × Value)} (d : decode cc pc = .ok (.istore i, 2)) (hn : i < nL) (hl' : lS i (.int x) lv = lv') (kk : GW base D cA p l e R s m args below meth c Q nL h cells slots (pc + 2) lv' st) : GW base D cA p l e R s m args below meth c Q nL h cells slots pc lv (.int x :: st) :=
  fun H locs ls hR hS hl => lv_istore C.1 C.2.1 d hl hn hl' (fun ls' hl2 => kk H locs ls' hR hS hl2)
theorem g_astore_n (C : GC base D cA p s m args meth c cc nL own) {k : Fin 4} {i x : Nat} {lv' : List (Nat × Value)} (d : decode cc pc = .ok (.astore_n k, 1)) (hi : (k : Nat) = i) (hn : i < nL) (hl' : lS i (.ref x) lv = lv') (kk : GW base D cA p l e R s m args below meth c Q nL h cells slots (pc + 1) lv' st) : GW base D cA p l e R s m args below meth c Q nL h cells slots pc lv (.ref x :: st) :=
  fun H locs ls hR hS hl => lv_astore_n C.1 C.2.1 d hi hl hn hl' (fun ls' hl2 => kk H locs ls' hR hS hl2)
theorem g_astore (C : GC base D cA p s m args meth c cc nL own) {i x : Nat} {lv' : List (Nat × Value)} (d : decode cc pc = .ok (.astore i, 2)) (hn : i < nL) (hl' : lS i (.ref x) lv = lv') (kk : GW base D cA p l e R s m args below meth c Q nL h cells slots (pc + 2) lv' st) : GW base D cA p l e R s m args below meth c Q nL h cells slots pc lv (.ref x :: st) :=
  fun H locs ls hR hS hl => lv_astore C.1 C.2.1 d hl hn hl' (fun ls' hl2 => kk H locs ls' hR hS hl2)
theorem g_lstore_n (C : GC base D cA p s m args meth c cc nL own) {k : Fin 4} {i : Nat} {x : Int64} {lv' : List (Nat × Value)} (d : decode cc pc = .ok (.lstore_n k, 1)) (hi : (k : Nat) = i) (hn : i + 1 < nL) (hl' : (i, Value.long x) :: lv.filter (fun q => !(q.1 == i) && (!(q.1 == i + 1) && !(q.1 + 1 == i && q.2.category == 2))) = lv') (kk : GW base D cA p l e R s m args below meth c Q nL h cells slots (pc + 1) lv' st) : GW base D cA p l e R s m args below meth c Q nL h cells slots pc lv (.long x :: st) :=
  fun H locs ls hR hS hl => lv_lstore_n C.1 C.2.1 d hi hl hn hl' (fun ls' hl2 => kk H locs ls' hR hS hl2)
theorem g_iinc (C : GC base D cA p s m args meth c cc nL own) {i : Nat} {n : Int} {x : Int32} {lv' : List (Nat × Value)} (q : Nat) (v : Int32) (d : decode cc pc = .ok (.iinc i n, 3)) (hq : lv[q]? = some (i, .int x)) (hv : Int32.ofInt n = v) (hn : i < nL) (hl' : lS i (.int (x + v)) lv = lv') (kk : GW base D cA p l e R s m args below meth c Q nL h cells slots (pc + 3) lv' st) : GW base D cA p l e R s m args below meth c Q nL h cells slots pc lv st :=
  fun H locs ls hR hS hl => lv_iinc (v := x + v) C.1 C.2.1 d hl hq (by rw [hv]) hn hl' (fun ls' hl2 => kk H locs ls' hR hS hl2)
theorem g_iadd (C : GC base D cA p s m args meth c cc nL own) {x y : Int32} (d : decode cc pc = .ok (.iadd, 1)) (kk : GW base D cA p l e R s m args below meth c Q nL h cells slots (pc + 1) lv (.int (x + y) :: st)) : GW base D cA p l e R s m args below meth c Q nL h cells slots pc lv (.int y :: .int x :: st) :=
  fun H locs ls hR hS hl => lv_iadd C.1 C.2.1 d (kk H locs ls hR hS hl)
theorem g_isub (C : GC base D cA p s m args meth c cc nL own) {x y : Int32} (d : decode cc pc = .ok (.isub, 1)) (kk : GW base D cA p l e R s m args below meth c Q nL h cells slots (pc + 1) lv (.int (x - y) :: st)) : GW base D cA p l e R s m args below meth c Q nL h cells slots pc lv (.int y :: .int x :: st) :=
  fun H locs ls hR hS hl => lv_isub C.1 C.2.1 d (kk H locs ls hR hS hl)
theorem g_imul (C : GC base D cA p s m args meth c cc nL own) {x y : Int32} (d : decode cc pc = .ok (.imul, 1)) (kk : GW base D cA p l e R s m args below meth c Q nL h cells slots (pc + 1) lv (.int (x * y) :: st)) : GW base D cA p l e R s m args below meth c Q nL h cells slots pc lv (.int y :: .int x :: st) :=
  fun H locs ls hR hS hl => lv_imul C.1 C.2.1 d (kk H locs ls hR hS hl)
theorem g_iand (C : GC base D cA p s m args meth c cc nL own) {x y : Int32} (d : decode cc pc = .ok (.iand, 1)) (kk : GW base D cA p l e R s m args below meth c Q nL h cells slots (pc + 1) lv (.int (x &&& y) :: st)) : GW base D cA p l e R s m args below meth c Q nL h cells slots pc lv (.int y :: .int x :: st) :=
  fun H locs ls hR hS hl => lv_iand C.1 C.2.1 d (kk H locs ls hR hS hl)
theorem g_ineg (C : GC base D cA p s m args meth c cc nL own) {x : Int32} (d : decode cc pc = .ok (.ineg, 1)) (kk : GW base D cA p l e R s m args below meth c Q nL h cells slots (pc + 1) lv (.int (-x) :: st)) : GW base D cA p l e R s m args below meth c Q nL h cells slots pc lv (.int x :: st) :=
  fun H locs ls hR hS hl => lv_ineg C.1 C.2.1 d (kk H locs ls hR hS hl)
theorem g_idiv (C : GC base D cA p s m args meth c cc nL own) {x y : Int32} {α : Type} {f : Int32 → Option α} {X : α} (d : decode cc pc = .ok (.idiv, 1)) (E : divI x y f = some X) (kk : ∀ z : Int32, f z = some X → GW base D cA p l e R s m args below meth c Q nL h cells slots (pc + 1) lv (.int z :: st)) : GW base D cA p l e R s m args below meth c Q nL h cells slots pc lv (.int y :: .int x :: st) :=
  fun H locs ls hR hS hl => lv_idiv C.1 C.2.1 d (ite_some2 E).1 (kk _ (ite_some2 E).2 H locs ls hR hS hl)
theorem g_ldiv (C : GC base D cA p s m args meth c cc nL own) {x y : Int64} {α : Type} {f : Int64 → Option α} {X : α} (d : decode cc pc = .ok (.ldiv, 1)) (E : divL x y f = some X) (kk : ∀ z : Int64, f z = some X → GW base D cA p l e R s m args below meth c Q nL h cells slots (pc + 1) lv (.long z :: st)) : GW base D cA p l e R s m args below meth c Q nL h cells slots pc lv (.long y :: .long x :: st) :=
  fun H locs ls hR hS hl => lv_ldiv C.1 C.2.1 d (ite_some2 E).1 (kk _ (ite_some2 E).2 H locs ls hR hS hl)
theorem g_ladd (C : GC base D cA p s m args meth c cc nL own) {x y : Int64} (d : decode cc pc = .ok (.ladd, 1)) (kk : GW base D cA p l e R s m args below meth c Q nL h cells slots (pc + 1) lv (.long (x + y) :: st)) : GW base D cA p l e R s m args below meth c Q nL h cells slots pc lv (.long y :: .long x :: st) :=
  fun H locs ls hR hS hl => lv_ladd C.1 C.2.1 d (kk H locs ls hR hS hl)
theorem g_lsub (C : GC base D cA p s m args meth c cc nL own) {x y : Int64} (d : decode cc pc = .ok (.lsub, 1)) (kk : GW base D cA p l e R s m args below meth c Q nL h cells slots (pc + 1) lv (.long (x - y) :: st)) : GW base D cA p l e R s m args below meth c Q nL h cells slots pc lv (.long y :: .long x :: st) :=
  fun H locs ls hR hS hl => lv_lsub C.1 C.2.1 d (kk H locs ls hR hS hl)
theorem g_lmul (C : GC base D cA p s m args meth c cc nL own) {x y : Int64} (d : decode cc pc = .ok (.lmul, 1)) (kk : GW base D cA p l e R s m args below meth c Q nL h cells slots (pc + 1) lv (.long (x * y) :: st)) : GW base D cA p l e R s m args below meth c Q nL h cells slots pc lv (.long y :: .long x :: st) :=
  fun H locs ls hR hS hl => lv_lmul C.1 C.2.1 d (kk H locs ls hR hS hl)
theorem g_i2l (C : GC base D cA p s m args meth c cc nL own) {x : Int32} (d : decode cc pc = .ok (.i2l, 1)) (kk : GW base D cA p l e R s m args below meth c Q nL h cells slots (pc + 1) lv (.long x.toInt64 :: st)) : GW base D cA p l e R s m args below meth c Q nL h cells slots pc lv (.int x :: st) :=
  fun H locs ls hR hS hl => lv_i2l C.1 C.2.1 d rfl (kk H locs ls hR hS hl)
theorem g_l2i (C : GC base D cA p s m args meth c cc nL own) {x : Int64} (d : decode cc pc = .ok (.l2i, 1)) (kk : GW base D cA p l e R s m args below meth c Q nL h cells slots (pc + 1) lv (.int x.toInt32 :: st)) : GW base D cA p l e R s m args below meth c Q nL h cells slots pc lv (.long x :: st) :=
  fun H locs ls hR hS hl => lv_l2i C.1 C.2.1 d rfl (kk H locs ls hR hS hl)
theorem g_i2c (C : GC base D cA p s m args meth c cc nL own) {x : Int32} (d : decode cc pc = .ok (.i2c, 1)) (kk : GW base D cA p l e R s m args below meth c Q nL h cells slots (pc + 1) lv (.int (x.toUInt32 % 65536).toInt32 :: st)) : GW base D cA p l e R s m args below meth c Q nL h cells slots pc lv (.int x :: st) :=
  fun H locs ls hR hS hl => lv_i2c C.1 C.2.1 d rfl (kk H locs ls hR hS hl)
theorem g_dup (C : GC base D cA p s m args meth c cc nL own) {v : Value} (d : decode cc pc = .ok (.dup, 1)) (hv : v.category = 1) (kk : GW base D cA p l e R s m args below meth c Q nL h cells slots (pc + 1) lv (v :: v :: st)) : GW base D cA p l e R s m args below meth c Q nL h cells slots pc lv (v :: st) :=
  fun H locs ls hR hS hl => lv_dup C.1 C.2.1 d hv (kk H locs ls hR hS hl)
theorem g_dup2 (C : GC base D cA p s m args meth c cc nL own) {v w : Value} (d : decode cc pc = .ok (.dup2, 1)) (hv : v.category = 1) (hw : w.category = 1) (kk : GW base D cA p l e R s m args below meth c Q nL h cells slots (pc + 1) lv (v :: w :: v :: w :: st)) : GW base D cA p l e R s m args below meth c Q nL h cells slots pc lv (v :: w :: st) :=
  fun H locs ls hR hS hl => lv_dup2_11 C.1 C.2.1 d hv hw (kk H locs ls hR hS hl)
theorem g_pop (C : GC base D cA p s m args meth c cc nL own) {v : Value} (d : decode cc pc = .ok (.pop, 1)) (hv : v.category = 1) (kk : GW base D cA p l e R s m args below meth c Q nL h cells slots (pc + 1) lv st) : GW base D cA p l e R s m args below meth c Q nL h cells slots pc lv (v :: st) :=
  fun H locs ls hR hS hl => lv_pop C.1 C.2.1 d hv (kk H locs ls hR hS hl)
theorem g_goto (C : GC base D cA p s m args meth c cc nL own) {off : Int} (tgt : Nat) (d : decode cc pc = .ok (.goto off, 3)) (ht : (pc : Int) + off = (tgt : Int)) (kk : GW base D cA p l e R s m args below meth c Q nL h cells slots tgt lv st) : GW base D cA p l e R s m args below meth c Q nL h cells slots pc lv st :=
  fun H locs ls hR hS hl => lv_goto C.1 C.2.1 d ht (kk H locs ls hR hS hl)
theorem g_if_eq (C : GC base D cA p s m args meth c cc nL own) {x : Int32} {off : Int} {α : Type} {a b : Option α} {X : α} (tgt : Nat) (d : decode cc pc = .ok (.ifCond .eq off, 3)) (ht : (pc : Int) + off = (tgt : Int)) (E : (if x = 0 then a else b) = some X) (kt : a = some X → GW base D cA p l e R s m args below meth c Q nL h cells slots tgt lv st) (kf : b = some X → GW base D cA p l e R s m args below meth c Q nL h cells slots (pc + 3) lv st) : GW base D cA p l e R s m args below meth c Q nL h cells slots pc lv (.int x :: st) :=
  fun H locs ls hR hS hl => lv_if_eq C.1 C.2.1 d ht (fun q => kt (by rw [if_pos (q)] at E; exact E) H locs ls hR hS hl) (fun q => kf (by rw [if_neg (q)] at E; exact E) H locs ls hR hS hl)
theorem g_if_ne (C : GC base D cA p s m args meth c cc nL own) {x : Int32} {off : Int} {α : Type} {a b : Option α} {X : α} (tgt : Nat) (d : decode cc pc = .ok (.ifCond .ne off, 3)) (ht : (pc : Int) + off = (tgt : Int)) (E : (if x = 0 then a else b) = some X) (kt : b = some X → GW base D cA p l e R s m args below meth c Q nL h cells slots tgt lv st) (kf : a = some X → GW base D cA p l e R s m args below meth c Q nL h cells slots (pc + 3) lv st) : GW base D cA p l e R s m args below meth c Q nL h cells slots pc lv (.int x :: st) :=
  fun H locs ls hR hS hl => lv_if_ne C.1 C.2.1 d ht (fun q => kt (by rw [if_neg q] at E; exact E) H locs ls hR hS hl) (fun q => kf (by rw [if_pos q] at E; exact E) H locs ls hR hS hl)
theorem g_if_lt (C : GC base D cA p s m args meth c cc nL own) {x : Int32} {off : Int} {α : Type} {a b : Option α} {X : α} (tgt : Nat) (d : decode cc pc = .ok (.ifCond .lt off, 3)) (ht : (pc : Int) + off = (tgt : Int)) (E : (if x < 0 then a else b) = some X) (kt : a = some X → GW base D cA p l e R s m args below meth c Q nL h cells slots tgt lv st) (kf : b = some X → GW base D cA p l e R s m args below meth c Q nL h cells slots (pc + 3) lv st) : GW base D cA p l e R s m args below meth c Q nL h cells slots pc lv (.int x :: st) :=
  fun H locs ls hR hS hl => lv_if_lt C.1 C.2.1 d ht (fun q => kt (by rw [if_pos (q)] at E; exact E) H locs ls hR hS hl) (fun q => kf (by rw [if_neg (q)] at E; exact E) H locs ls hR hS hl)
theorem g_if_ge (C : GC base D cA p s m args meth c cc nL own) {x : Int32} {off : Int} {α : Type} {a b : Option α} {X : α} (tgt : Nat) (d : decode cc pc = .ok (.ifCond .ge off, 3)) (ht : (pc : Int) + off = (tgt : Int)) (E : (if 0 ≤ x then a else b) = some X) (kt : a = some X → GW base D cA p l e R s m args below meth c Q nL h cells slots tgt lv st) (kf : b = some X → GW base D cA p l e R s m args below meth c Q nL h cells slots (pc + 3) lv st) : GW base D cA p l e R s m args below meth c Q nL h cells slots pc lv (.int x :: st) :=
  fun H locs ls hR hS hl => lv_if_ge C.1 C.2.1 d ht (fun q => kt (by rw [if_pos (q)] at E; exact E) H locs ls hR hS hl) (fun q => kf (by rw [if_neg (q)] at E; exact E) H locs ls hR hS hl)
theorem g_if_gt (C : GC base D cA p s m args meth c cc nL own) {x : Int32} {off : Int} {α : Type} {a b : Option α} {X : α} (tgt : Nat) (d : decode cc pc = .ok (.ifCond .gt off, 3)) (ht : (pc : Int) + off = (tgt : Int)) (E : (if 0 < x then a else b) = some X) (kt : a = some X → GW base D cA p l e R s m args below meth c Q nL h cells slots tgt lv st) (kf : b = some X → GW base D cA p l e R s m args below meth c Q nL h cells slots (pc + 3) lv st) : GW base D cA p l e R s m args below meth c Q nL h cells slots pc lv (.int x :: st) :=
  fun H locs ls hR hS hl => lv_if_gt C.1 C.2.1 d ht (fun q => kt (by rw [if_pos (q)] at E; exact E) H locs ls hR hS hl) (fun q => kf (by rw [if_neg (q)] at E; exact E) H locs ls hR hS hl)
theorem g_if_le (C : GC base D cA p s m args meth c cc nL own) {x : Int32} {off : Int} {α : Type} {a b : Option α} {X : α} (tgt : Nat) (d : decode cc pc = .ok (.ifCond .le off, 3)) (ht : (pc : Int) + off = (tgt : Int)) (E : (if x ≤ 0 then a else b) = some X) (kt : a = some X → GW base D cA p l e R s m args below meth c Q nL h cells slots tgt lv st) (kf : b = some X → GW base D cA p l e R s m args below meth c Q nL h cells slots (pc + 3) lv st) : GW base D cA p l e R s m args below meth c Q nL h cells slots pc lv (.int x :: st) :=
  fun H locs ls hR hS hl => lv_if_le C.1 C.2.1 d ht (fun q => kt (by rw [if_pos (q)] at E; exact E) H locs ls hR hS hl) (fun q => kf (by rw [if_neg (q)] at E; exact E) H locs ls hR hS hl)
theorem g_icmp_eq (C : GC base D cA p s m args meth c cc nL own) {x y : Int32} {off : Int} {α : Type} {a b : Option α} {X : α} (tgt : Nat) (d : decode cc pc = .ok (.if_icmp .eq off, 3)) (ht : (pc : Int) + off = (tgt : Int)) (E : (if x = y then a else b) = some X) (kt : a = some X → GW base D cA p l e R s m args below meth c Q nL h cells slots tgt lv st) (kf : b = some X → GW base D cA p l e R s m args below meth c Q nL h cells slots (pc + 3) lv st) : GW base D cA p l e R s m args below meth c Q nL h cells slots pc lv (.int y :: .int x :: st) :=
  fun H locs ls hR hS hl => lv_icmp_eq C.1 C.2.1 d ht (fun q => kt (by rw [if_pos (q)] at E; exact E) H locs ls hR hS hl) (fun q => kf (by rw [if_neg (q)] at E; exact E) H locs ls hR hS hl)
theorem g_icmp_ne (C : GC base D cA p s m args meth c cc nL own) {x y : Int32} {off : Int} {α : Type} {a b : Option α} {X : α} (tgt : Nat) (d : decode cc pc = .ok (.if_icmp .ne off, 3)) (ht : (pc : Int) + off = (tgt : Int)) (E : (if x = y then a else b) = some X) (kt : b = some X → GW base D cA p l e R s m args below meth c Q nL h cells slots tgt lv st) (kf : a = some X → GW base D cA p l e R s m args below meth c Q nL h cells slots (pc + 3) lv st) : GW base D cA p l e R s m args below meth c Q nL h cells slots pc lv (.int y :: .int x :: st) :=
  fun H locs ls hR hS hl => lv_icmp_ne C.1 C.2.1 d ht (fun q => kt (by rw [if_neg q] at E; exact E) H locs ls hR hS hl) (fun q => kf (by rw [if_pos q] at E; exact E) H locs ls hR hS hl)
theorem g_icmp_lt (C : GC base D cA p s m args meth c cc nL own) {x y : Int32} {off : Int} {α : Type} {a b : Option α} {X : α} (tgt : Nat) (d : decode cc pc = .ok (.if_icmp .lt off, 3)) (ht : (pc : Int) + off = (tgt : Int)) (E : (if x < y then a else b) = some X) (kt : a = some X → GW base D cA p l e R s m args below meth c Q nL h cells slots tgt lv st) (kf : b = some X → GW base D cA p l e R s m args below meth c Q nL h cells slots (pc + 3) lv st) : GW base D cA p l e R s m args below meth c Q nL h cells slots pc lv (.int y :: .int x :: st) :=
  fun H locs ls hR hS hl => lv_icmp_lt C.1 C.2.1 d ht (fun q => kt (by rw [if_pos (q)] at E; exact E) H locs ls hR hS hl) (fun q => kf (by rw [if_neg (q)] at E; exact E) H locs ls hR hS hl)
theorem g_icmp_ge (C : GC base D cA p s m args meth c cc nL own) {x y : Int32} {off : Int} {α : Type} {a b : Option α} {X : α} (tgt : Nat) (d : decode cc pc = .ok (.if_icmp .ge off, 3)) (ht : (pc : Int) + off = (tgt : Int)) (E : (if y ≤ x then a else b) = some X) (kt : a = some X → GW base D cA p l e R s m args below meth c Q nL h cells slots tgt lv st) (kf : b = some X → GW base D cA p l e R s m args below meth c Q nL h cells slots (pc + 3) lv st) : GW base D cA p l e R s m args below meth c Q nL h cells slots pc lv (.int y :: .int x :: st) :=
  fun H locs ls hR hS hl => lv_icmp_ge C.1 C.2.1 d ht (fun q => kt (by rw [if_pos (q)] at E; exact E) H locs ls hR hS hl) (fun q => kf (by rw [if_neg (q)] at E; exact E) H locs ls hR hS hl)
theorem g_icmp_gt (C : GC base D cA p s m args meth c cc nL own) {x y : Int32} {off : Int} {α : Type} {a b : Option α} {X : α} (tgt : Nat) (d : decode cc pc = .ok (.if_icmp .gt off, 3)) (ht : (pc : Int) + off = (tgt : Int)) (E : (if y < x then a else b) = some X) (kt : a = some X → GW base D cA p l e R s m args below meth c Q nL h cells slots tgt lv st) (kf : b = some X → GW base D cA p l e R s m args below meth c Q nL h cells slots (pc + 3) lv st) : GW base D cA p l e R s m args below meth c Q nL h cells slots pc lv (.int y :: .int x :: st) :=
  fun H locs ls hR hS hl => lv_icmp_gt C.1 C.2.1 d ht (fun q => kt (by rw [if_pos (q)] at E; exact E) H locs ls hR hS hl) (fun q => kf (by rw [if_neg (q)] at E; exact E) H locs ls hR hS hl)
theorem g_icmp_le (C : GC base D cA p s m args meth c cc nL own) {x y : Int32} {off : Int} {α : Type} {a b : Option α} {X : α} (tgt : Nat) (d : decode cc pc = .ok (.if_icmp .le off, 3)) (ht : (pc : Int) + off = (tgt : Int)) (E : (if x ≤ y then a else b) = some X) (kt : a = some X → GW base D cA p l e R s m args below meth c Q nL h cells slots tgt lv st) (kf : b = some X → GW base D cA p l e R s m args below meth c Q nL h cells slots (pc + 3) lv st) : GW base D cA p l e R s m args below meth c Q nL h cells slots pc lv (.int y :: .int x :: st) :=
  fun H locs ls hR hS hl => lv_icmp_le C.1 C.2.1 d ht (fun q => kt (by rw [if_pos (q)] at E; exact E) H locs ls hR hS hl) (fun q => kf (by rw [if_neg (q)] at E; exact E) H locs ls hR hS hl)

theorem Rp.set {h' : Hp} {H H1 : Heap} {a : Nat} (hR : Rp base D cA h H) (hn : hN h' = hN h) (ht : hT h' = hT h) (h1 : 1 ≤ a) (h2 : a ≤ hN h) (ho : ∀ b : Nat, b ≠ a → hE base cA h' b = hE base cA h b) (hat : va_at D vwCl (base + a, hE base cA h' a) H1) (z : H1.size = H.size) (oq : ∀ q : Nat, q ≠ base + a → H1[q]? = H[q]?) : Rp base D cA h' H1 := by
  refine ⟨by rw [z, hn]; exact hR.1, ?_, by rw [ht, hn]; exact hR.2.2⟩
  rw [← wld_set hn h1 h2 rfl ho]
  exact hR.2.1.set (wld_D h) (wld_get h h1 h2) hat oq
theorem Rp.push {h' : Hp} {H H1 : Heap} (hR : Rp base D cA h H) (hn : hN h' = hN h + 1) (ht : ∀ a : Nat, (hT h' a).1 < 99 → 1 ≤ a ∧ a ≤ hN h + 1) (ho : ∀ b : Nat, b ≠ hN h + 1 → hE base cA h' b = hE base cA h b) (hat : va_at D vwCl (base + 1 + hN h, hE base cA h' (hN h + 1)) H1) (z : H1.size = H.size + 1) (oq : ∀ q : Nat, q < H.size → H1[q]? = H[q]?) : Rp base D cA h' H1 := by
  refine ⟨by rw [z, hn, hR.1]; omega, ?_, by rw [hn]; exact ht⟩
  rw [← wld_push hn rfl ho]
  refine (hR.2.1.kept (fun k x hx => oq x.1 (hR.2.1 k x hx).lt)).app (fun k q hk => ?_)
  have hz : k < 1 := (List.getElem?_eq_some_iff.mp hk).1
  rw [show k = 0 by omega] at hk
  cases hk
  exact hat
theorem Rp.at {H : Heap} {a : Nat} (hR : Rp base D cA h H) (ha : (hT h a).1 < 99) : 1 ≤ a ∧ a ≤ hN h ∧ (wld base cA h)[a - 1]? = some (base + a, hE base cA h a) :=
  ⟨(hR.2.2 a ha).1, (hR.2.2 a ha).2, wld_get h (hR.2.2 a ha).1 (hR.2.2 a ha).2⟩
theorem g_getI (C : GC base D cA p s m args meth c cc nL own) {α : Type} {f : Int32 → Option α} {X : α} {a idx ci k : Nat} {ty : FieldType} (d : decode cc pc = .ok (.getfield idx, 3)) (F : FL own idx ci k ty) (k1 : fk ci k ≠ 1) (k2 : fk ci k ≠ 2) (E : getI h a ci k f = some X) (kk : ∀ x : Int32, f x = some X → GW base D cA p l e R s m args below meth c Q nL h cells slots (pc + 3) lv (.int x :: st)) : GW base D cA p l e R s m args below meth c Q nL h cells slots pc lv (.ref (base + a) :: st) := by
  intro H locs ls hR hS hl
  obtain ⟨hc, E⟩ := ite_some E
  obtain ⟨Cn, T, N, hcl, h20, hN, hkN, hin, hlk, -⟩ := F
  obtain ⟨h1, h2, he⟩ := hR.at (a := a) (by omega)
  rw [hE_obj hc h20] at he
  refine va_get C.1 C.2.1 C.2.2.2.2.1 (wsA_lays hin) C.2.2.2.1 C.2.2.2.2.2.1 hR.2.1 (a - 1) he hcl k hkN (C.2.2.2.2.1 _ hlk) (fun _ q => q) (v := .int (hI h a k)) ?_ d (kk _ E H locs ls hR hS hl)
  rw [fv_at (by omega)]
  simp only [fv, if_neg k1, if_neg k2]
theorem g_getL (C : GC base D cA p s m args meth c cc nL own) {α : Type} {f : Int64 → Option α} {X : α} {a idx ci k : Nat} {ty : FieldType} (d : decode cc pc = .ok (.getfield idx, 3)) (F : FL own idx ci k ty) (k1 : fk ci k = 1) (E : getL h a ci k f = some X) (kk : ∀ x : Int64, f x = some X → GW base D cA p l e R s m args below meth c Q nL h cells slots (pc + 3) lv (.long x :: st)) : GW base D cA p l e R s m args below meth c Q nL h cells slots pc lv (.ref (base + a) :: st) := by
  intro H locs ls hR hS hl
  obtain ⟨hc, E⟩ := ite_some E
  obtain ⟨Cn, T, N, hcl, h20, hN, hkN, hin, hlk, -⟩ := F
  obtain ⟨h1, h2, he⟩ := hR.at (a := a) (by omega)
  rw [hE_obj hc h20] at he
  refine va_get C.1 C.2.1 C.2.2.2.2.1 (wsA_lays hin) C.2.2.2.1 C.2.2.2.2.2.1 hR.2.1 (a - 1) he hcl k hkN (C.2.2.2.2.1 _ hlk) (fun _ q => q) (v := .long (hL h a k)) ?_ d (kk _ E H locs ls hR hS hl)
  rw [fv_at (by omega)]
  simp only [fv, if_pos k1]
theorem g_getR (C : GC base D cA p s m args meth c cc nL own) {α : Type} {f : Nat → Option α} {X : α} {a idx ci k : Nat} {ty : FieldType} (d : decode cc pc = .ok (.getfield idx, 3)) (F : FL own idx ci k ty) (k2 : fk ci k = 2) (E : getR h a ci k f = some X) (kk : ∀ x : Nat, f x = some X → GW base D cA p l e R s m args below meth c Q nL h cells slots (pc + 3) lv (.ref (base + x) :: st)) : GW base D cA p l e R s m args below meth c Q nL h cells slots pc lv (.ref (base + a) :: st) := by
  intro H locs ls hRp hS hl
  obtain ⟨⟨hc, hnz⟩, E⟩ := ite_some E
  obtain ⟨Cn, T, N, hcl, h20, hN, hkN, hin, hlk, -⟩ := F
  obtain ⟨h1, h2, he⟩ := hRp.at (a := a) (by omega)
  rw [hE_obj hc h20] at he
  refine va_get C.1 C.2.1 C.2.2.2.2.1 (wsA_lays hin) C.2.2.2.1 C.2.2.2.2.2.1 hRp.2.1 (a - 1) he hcl k hkN (C.2.2.2.2.1 _ hlk) (fun _ q => q) (v := .ref (base + hR h a k)) ?_ d (kk _ E H locs ls hRp hS hl)
  rw [fv_at (by omega)]
  simp only [fv, if_neg (show ¬ fk ci k = 1 by omega), if_pos k2, rA, if_neg hnz, va_rf]
/-- a store into a field, of any kind: the model's new heap h' -/
theorem g_put (C : GC base D cA p s m args meth c cc nL own) {a idx ci k : Nat} {ty : FieldType} {v : Value} {h' : Hp} (d : decode cc pc = .ok (.putfield idx, 3)) (F : FL own idx ci k ty) (fin : Bool) (P : FP own ci k fin) (hfi : fin = true → meth.name = "<init>") (hc : (hT h a).1 = ci) (hn : narrow ty v = v) (hf : fits ty v = true)
    (hN' : hN h' = hN h) (hT' : hT h' = hT h) (ho : ∀ b : Nat, b ≠ a → hE base cA h' b = hE base cA h b) (hv : fv base (hI h' a) (hL h' a) (hR h' a) ci k = v) (hj : ∀ j, j ≠ k → fv base (hI h' a) (hL h' a) (hR h' a) ci j = fv base (hI h a) (hL h a) (hR h a) ci j)
    (kk : GW base D cA p l e R s m args below meth c Q nL h' cells slots (pc + 3) lv st) : GW base D cA p l e R s m args below meth c Q nL h cells slots pc lv (v :: .ref (base + a) :: st) := by
  intro H locs ls hRp hS hl
  obtain ⟨Cn, T, N, hcl, h20, hNf, hkN, hin, hlk, hd⟩ := F
  obtain ⟨Cn2, T2, N2, ty0, hcl2, hty, hnm, hfin, hdecl⟩ := P
  cases hcl.symm.trans hcl2
  obtain ⟨h1, h2, he⟩ := hRp.at (a := a) (by omega)
  rw [hE_obj hc h20] at he
  have hts := C.2.2.2.2.1
  have hin' := wsA_lays hin
  have hap := va_apart (own := own) hts hin' ty0 hty hnm C.2.2.2.2.2.1 hcl
  obtain ⟨r, g1, cell, q1, q2, q3, q4⟩ := hRp.2.1 _ _ he
  cases g1.symm.trans hcl
  obtain ⟨hSl, hfc, kC, hkC, hkind⟩ := C.2.2.2.2.2.1.1 ci _ hcl
  obtain ⟨cf, kf, fi, f, hi, hsl⟩ := hSl k hkN
  have hst := (u_facts hfc hkC (u_lays hts hin' hkN) hi).1
  have hlt : f.slot < cell.slots.size := by rw [hsl]; exact k2_hasslot (q4 k hkN)
  have key : ∀ (H1 : Heap) (locs1 : List Loc), H1[base + a]? = some (cell.setSlot f.slot v) → H1.size = H.size → (∀ q, q ≠ base + a → H1[q]? = H[q]?) → va_S (AA base) s.heap H1 locs1 → W p l e R s m args below meth c H1 locs1 cells slots Q (F0 m (pc + 3) ls st) := by
    intro H1 locs1 e1 e2 e3 e4
    refine kk H1 locs1 ls (hRp.set hN' hT' h1 h2 ho ?_ e2 e3) e4 hl
    rw [hE_obj (show (hT h' a).1 = ci by rw [hT']; exact hc) h20, ← fv_set hv hj]
    rw [hsl] at e1
    refine ⟨_, hcl, t_OB.to (V := updV (vp_V ((List.range (nf ci)).map (fv base (hI h a) (hL h a) (hR h a) ci))) k v) ⟨_, e1, q2, q3, t_set q4 hap hkN v⟩ (fun j _ => vp_updV_set ?_ v j)⟩
    rw [List.length_map, List.length_range]
    omega
  cases fin with
  | false =>
    have hlay := hts _ (hin' _ (u_in_lay hkN))
    unfold u_lay at hlay
    rw [if_neg (by rw [hfin]; decide)] at hlay
    have h6 := u_store hfc hkC hkind hlay hi hd hn hf
    exact W.putK C.1 C.2.1 (f := f) ⟨C.2.2.2.1, hts _ hlk, ⟨_, _, _, hi⟩, hst⟩ (by rw [q2]; exact h6) q1 q3 hlt rfl rfl d fun H1 e1 e2 e3 => key H1 _ e1 e2 e3 (hS.put e2 e3 (by show base + 1 ≤ base + a; omega))
  | true =>
    have hlay := hts _ (hin' _ (u_in_lay hkN))
    unfold u_lay at hlay
    rw [if_pos hfin] at hlay
    have hcf : m.cls = cf := by
      obtain ⟨_, _, c', _, _, _, -, -, hf', -, -, -, hown2, -⟩ := Cond.laysFinal_spec hlay
      have e1 : c' = cf := by have := hi.symm.trans hf'; simp at this; exact this.1.symm
      rw [hdecl rfl] at hown2
      rw [← e1]
      exact Option.some.inj (C.2.2.2.1.symm.trans hown2)
    have h6 := u_fits hfc hkC hkind (Or.inr hlay) hi hd hn hf
    exact W.putFinK C.1 C.2.1 C.2.2.2.1 (hts _ hlk) hi hst hcf (hfi rfl) (by rw [q2]; exact h6) q1 q3 hlt rfl rfl d fun H1 e1 e2 e3 => key H1 _ e1 e2 e3 (hS.put e2 e3 (by show base + 1 ≤ base + a; omega))
theorem fv_I {i i' : Nat → Int32} {g : Nat → Int64} {r : Nat → Nat} {ci j : Nat} (h : i' j = i j) : fv base i' g r ci j = fv base i g r ci j := by simp only [fv, h]
theorem g_putI (C : GC base D cA p s m args meth c cc nL own) {α : Type} {f : Hp → Option α} {X : α} {a idx ci k : Nat} {v : Int32} (fin : Bool) (d : decode cc pc = .ok (.putfield idx, 3)) (F : FL own idx ci k .int) (P : FP own ci k fin) (hfi : fin = true → meth.name = "<init>") (k0 : fk ci k = 0) (E : putI h a ci k v f = some X) (kk : ∀ h2 : Hp, f h2 = some X → GW base D cA p l e R s m args below meth c Q nL h2 cells slots (pc + 3) lv st) : GW base D cA p l e R s m args below meth c Q nL h cells slots pc lv (.int v :: .ref (base + a) :: st) := by
  obtain ⟨hc, E⟩ := ite_some E
  refine g_put (h' := sI h a k v) C d F fin P hfi hc rfl rfl rfl rfl (fun b hb => hE_sI hb) ?_ (fun j hj => ?_) (kk _ E)
  · show fv base (up2 (hI h) a k v a) (hL h a) (hR h a) ci k = _
    simp [fv, k0, up2]
  · show fv base (up2 (hI h) a k v a) (hL h a) (hR h a) ci j = _
    exact fv_I (by simp [up2, hj])
theorem g_putZ (C : GC base D cA p s m args meth c cc nL own) {α : Type} {f : Hp → Option α} {X : α} {a idx ci k : Nat} {v : Int32} (fin : Bool) (d : decode cc pc = .ok (.putfield idx, 3)) (F : FL own idx ci k .boolean) (P : FP own ci k fin) (hfi : fin = true → meth.name = "<init>") (k0 : fk ci k = 3) (E : putZ h a ci k v f = some X) (kk : ∀ h2 : Hp, f h2 = some X → GW base D cA p l e R s m args below meth c Q nL h2 cells slots (pc + 3) lv st) : GW base D cA p l e R s m args below meth c Q nL h cells slots pc lv (.int v :: .ref (base + a) :: st) := by
  obtain ⟨⟨hc, hv⟩, E⟩ := ite_some E
  refine g_put (h' := sI h a k v) C d F fin P hfi hc (by rcases hv with rfl | rfl <;> rfl) (by rcases hv with rfl | rfl <;> rfl) rfl rfl (fun b hb => hE_sI hb) ?_ (fun j hj => ?_) (kk _ E)
  · show fv base (up2 (hI h) a k v a) (hL h a) (hR h a) ci k = _
    simp [fv, k0, up2]
  · show fv base (up2 (hI h) a k v a) (hL h a) (hR h a) ci j = _
    exact fv_I (by simp [up2, hj])
theorem g_putL (C : GC base D cA p s m args meth c cc nL own) {α : Type} {f : Hp → Option α} {X : α} {a idx ci k : Nat} {v : Int64} (fin : Bool) (d : decode cc pc = .ok (.putfield idx, 3)) (F : FL own idx ci k .long) (P : FP own ci k fin) (hfi : fin = true → meth.name = "<init>") (k0 : fk ci k = 1) (E : putL h a ci k v f = some X) (kk : ∀ h2 : Hp, f h2 = some X → GW base D cA p l e R s m args below meth c Q nL h2 cells slots (pc + 3) lv st) : GW base D cA p l e R s m args below meth c Q nL h cells slots pc lv (.long v :: .ref (base + a) :: st) := by
  obtain ⟨hc, E⟩ := ite_some E
  refine g_put (h' := sL h a k v) C d F fin P hfi hc rfl rfl rfl rfl (fun b hb => hE_sL hb) ?_ (fun j hj => ?_) (kk _ E)
  · show fv base (hI h a) (up2 (hL h) a k v a) (hR h a) ci k = _
    simp [fv, k0, up2]
  · show fv base (hI h a) (up2 (hL h) a k v a) (hR h a) ci j = _
    simp [fv, up2, hj]
theorem g_putR (C : GC base D cA p s m args meth c cc nL own) {α : Type} {f : Hp → Option α} {X : α} {a idx ci k v : Nat} {ty : FieldType} (fin : Bool) (d : decode cc pc = .ok (.putfield idx, 3)) (F : FL own idx ci k ty) (hty : narrow ty (.ref (base + v)) = .ref (base + v) ∧ fits ty (.ref (base + v)) = true) (P : FP own ci k fin) (hfi : fin = true → meth.name = "<init>") (k0 : fk ci k = 2) (E : putR h a ci k v f = some X) (kk : ∀ h2 : Hp, f h2 = some X → GW base D cA p l e R s m args below meth c Q nL h2 cells slots (pc + 3) lv st) : GW base D cA p l e R s m args below meth c Q nL h cells slots pc lv (.ref (base + v) :: .ref (base + a) :: st) := by
  obtain ⟨⟨hc, hv⟩, E⟩ := ite_some E
  refine g_put (h' := sR h a k v) C d F fin P hfi hc hty.1 hty.2 rfl rfl (fun b hb => hE_sR hb) ?_ (fun j hj => ?_) (kk _ E)
  · show fv base (hI h a) (hL h a) (up2 (hR h) a k v a) ci k = _
    simp [fv, k0, up2, rA, hv, va_rf]
  · show fv base (hI h a) (hL h a) (up2 (hR h) a k v a) ci j = _
    simp [fv, up2, hj]
theorem g_iald (C : GC base D cA p s m args meth c cc nL own) {α : Type} {f : Int32 → Option α} {X : α} {a : Nat} {i : Int32} (d : decode cc pc = .ok (.iaload, 1)) (E : ldI h a 20 i f = some X) (kk : ∀ x : Int32, f x = some X → GW base D cA p l e R s m args below meth c Q nL h cells slots (pc + 1) lv (.int x :: st)) : GW base D cA p l e R s m args below meth c Q nL h cells slots pc lv (.int i :: .ref (base + a) :: st) := by
  intro H locs ls hRp hS hl
  obtain ⟨⟨hc, hi⟩, E⟩ := ite_some E
  obtain ⟨h1, h2, he⟩ := hRp.at (a := a) (by omega)
  rw [hE_int hc (by omega) (by omega)] at he
  exact va_iald C.1 C.2.1 C.2.2.2.2.2.1 hRp.2.1 (a - 1) 0 he rfl (vpin_of hi) d (kk _ E H locs ls hRp hS hl)
theorem g_cald (C : GC base D cA p s m args meth c cc nL own) {α : Type} {f : Int32 → Option α} {X : α} {a : Nat} {i : Int32} (d : decode cc pc = .ok (.caload, 1)) (E : ldI h a 21 i f = some X) (kk : ∀ x : Int32, f x = some X → GW base D cA p l e R s m args below meth c Q nL h cells slots (pc + 1) lv (.int x :: st)) : GW base D cA p l e R s m args below meth c Q nL h cells slots pc lv (.int i :: .ref (base + a) :: st) := by
  intro H locs ls hRp hS hl
  obtain ⟨⟨hc, hi⟩, E⟩ := ite_some E
  obtain ⟨h1, h2, he⟩ := hRp.at (a := a) (by omega)
  rw [hE_int hc (by omega) (by omega)] at he
  exact va_cald C.1 C.2.1 C.2.2.2.2.2.1 hRp.2.1 (a - 1) 1 he rfl (vpin_of hi) d (kk _ E H locs ls hRp hS hl)
theorem g_aald (C : GC base D cA p s m args meth c cc nL own) {α : Type} {f : Nat → Option α} {X : α} {a ak : Nat} {i : Int32} {Cn : String} (t0 : Nat) (h22 : 22 ≤ ak) (h99 : ak < 99) (ht : (tyL cA)[t0]? = some (cA ak, .object Cn)) (d : decode cc pc = .ok (.aaload, 1)) (E : ldR h a ak i f = some X) (kk : ∀ x : Nat, f x = some X → GW base D cA p l e R s m args below meth c Q nL h cells slots (pc + 1) lv (.ref (base + x) :: st)) : GW base D cA p l e R s m args below meth c Q nL h cells slots pc lv (.int i :: .ref (base + a) :: st) := by
  intro H locs ls hRp hS hl
  obtain ⟨⟨hc, hi, hnz⟩, E⟩ := ite_some E
  obtain ⟨h1, h2, he⟩ := hRp.at (a := a) (by omega)
  rw [hE_ref hc h22] at he
  refine va_aldq C.1 C.2.1 C.2.2.2.2.2.1 hRp.2.1 (a - 1) t0 he ht (vpin_of hi) d ?_
  simp only [rA, if_neg hnz, va_rf]
  exact kk _ E H locs ls hRp hS hl
theorem g_iast (C : GC base D cA p s m args meth c cc nL own) {α : Type} {f : Hp → Option α} {X : α} {a : Nat} {i v : Int32} (d : decode cc pc = .ok (.iastore, 1)) (E : stI h a 20 i v f = some X) (kk : ∀ h2 : Hp, f h2 = some X → GW base D cA p l e R s m args below meth c Q nL h2 cells slots (pc + 1) lv st) : GW base D cA p l e R s m args below meth c Q nL h cells slots pc lv (.int v :: .int i :: .ref (base + a) :: st) := by
  intro H locs ls hRp hS hl
  obtain ⟨⟨hc, hi⟩, E⟩ := ite_some E
  obtain ⟨h1, h2, he⟩ := hRp.at (a := a) (by omega)
  rw [hE_int hc (by omega) (by omega)] at he
  refine W.iast C.1 C.2.1 (hRp.2.1 _ _ he) ((C.2.2.2.2.2.1.2 0 _ rfl).1 (hT h a).2 (fun j => .int (hI h a j))) (fun q => by cases q) (by show ¬ (i < 0 ∨ (arrV _ _ _).slots.size ≤ _); rw [arrV_size]; exact vpin_of hi) rfl rfl d fun H1 e z oq => ?_
  refine kk _ E H1 _ ls (hRp.set rfl rfl h1 h2 (fun b hb => hE_sI hb) ?_ z oq) (hS.put z oq (by show base + 1 ≤ base + a; omega)) hl
  rw [hE_int (show (hT (sI h a i.toNatClampNeg v) a).1 = 20 from hc) (by omega) (by omega)]
  show H1[base + a]? = some (vp_cell _ _)
  rw [e, vp_cell_i, vp_cell_i, arrV_store]
  show some (arrV _ _ _) = some (arrV _ _ (fun j => Value.int (up2 (hI h) a i.toNatClampNeg v a j)))
  congr 2
  funext q
  by_cases hq : q = i.toNatClampNeg <;> simp [updV, up2, hq]
theorem g_cast (C : GC base D cA p s m args meth c cc nL own) {α : Type} {f : Hp → Option α} {X : α} {a : Nat} {i v : Int32} (d : decode cc pc = .ok (.castore, 1)) (E : stI h a 21 i (vp_nar .char v) f = some X) (kk : ∀ h2 : Hp, f h2 = some X → GW base D cA p l e R s m args below meth c Q nL h2 cells slots (pc + 1) lv st) : GW base D cA p l e R s m args below meth c Q nL h cells slots pc lv (.int v :: .int i :: .ref (base + a) :: st) := by
  intro H locs ls hRp hS hl
  obtain ⟨⟨hc, hi⟩, E⟩ := ite_some E
  obtain ⟨h1, h2, he⟩ := hRp.at (a := a) (by omega)
  rw [hE_int hc (by omega) (by omega)] at he
  refine W.cast C.1 C.2.1 (hRp.2.1 _ _ he) ((C.2.2.2.2.2.1.2 1 _ rfl).1 (hT h a).2 (fun j => .int (hI h a j))) (fun q => by cases q) (by show ¬ (i < 0 ∨ (arrV _ _ _).slots.size ≤ _); rw [arrV_size]; exact vpin_of hi) rfl rfl d fun H1 e z oq => ?_
  refine kk _ E H1 _ ls (hRp.set rfl rfl h1 h2 (fun b hb => hE_sI hb) ?_ z oq) (hS.put z oq (by show base + 1 ≤ base + a; omega)) hl
  rw [hE_int (show (hT (sI h a i.toNatClampNeg (vp_nar .char v)) a).1 = 21 from hc) (by omega) (by omega)]
  show H1[base + a]? = some (vp_cell _ _)
  rw [e, vp_cell_i, vp_cell_i, arrV_store]
  show some (arrV _ _ _) = some (arrV _ _ (fun j => Value.int (up2 (hI h) a i.toNatClampNeg (vp_nar .char v) a j)))
  congr 2
  funext q
  by_cases hq : q = i.toNatClampNeg <;> simp [updV, up2, hq, vp_nar, narrow]
theorem g_aast (C : GC base D cA p s m args meth c cc nL own) {α : Type} {f : Hp → Option α} {X : α} {a ak cv v : Nat} {i : Int32} {r : vw_C} (t0 : Nat) (h22 : 22 ≤ ak) (h99 : ak < 99) (hcv : cv < 20) (ht : (tyL cA)[t0]? = some (cA ak, .object r.1)) (hcl : vwCl[cv]? = some r) (d : decode cc pc = .ok (.aastore, 1)) (E : stR h a ak cv i v f = some X) (kk : ∀ h2 : Hp, f h2 = some X → GW base D cA p l e R s m args below meth c Q nL h2 cells slots (pc + 1) lv st) : GW base D cA p l e R s m args below meth c Q nL h cells slots pc lv (.ref (base + v) :: .int i :: .ref (base + a) :: st) := by
  intro H locs ls hRp hS hl
  obtain ⟨⟨hc, hi, hkv⟩, E⟩ := ite_some E
  obtain ⟨h1, h2, he⟩ := hRp.at (a := a) (by omega)
  obtain ⟨g1, g2, hev⟩ := hRp.at (a := v) (by omega)
  rw [hE_ref hc h22] at he
  rw [hE_obj hkv hcv] at hev
  obtain ⟨r', hr', cellV, q1, q2, q3, -⟩ := hRp.2.1 _ _ hev
  have hcls := (C.2.2.2.2.2.1.1 cv r hcl).2
  obtain ⟨kA, comp, k1, k2, k3, -⟩ := (C.2.2.2.2.2.1.2 t0 _ ht).2
  have hcomp : comp = D.1 cv := Option.some.inj (k3.symm.trans hcls.1)
  subst hcomp
  obtain ⟨kC, hkC, -⟩ := hcls.2
  refine W.aast C.1 C.2.1 (hRp.2.1 _ _ he) (fun q h => by cases h) (fun h => by cases h) k1 k2 rfl hkC ⟨Int32.not_lt.mpr hi.1, by show _ < (arrV _ _ _).slots.size; rw [arrV_size]; exact hi.2⟩ q1 (fun q h => by rw [q3] at h; cases h) (by rw [q2]; exact hkC) (by rw [q2]; exact va_assign hcls) rfl rfl d fun H1 e z oq => ?_
  refine kk _ E H1 _ ls (hRp.set rfl rfl h1 h2 (fun b hb => hE_sR hb) ?_ z oq) (hS.put z oq (by show base + 1 ≤ base + a; omega)) hl
  rw [hE_ref (show (hT (sR h a i.toNatClampNeg v) a).1 = ak from hc) h22]
  show H1[base + a]? = some (vp_cell _ _)
  rw [e, vp_cell_q, vp_cell_q, arrV_store]
  show some (arrV _ _ _) = some (arrV _ _ (fun j => va_rf (rA base (up2 (hR h) a i.toNatClampNeg v a j))))
  congr 2
  funext q
  have hv0 : v ≠ 0 := by omega
  by_cases hq : q = i.toNatClampNeg <;> simp [updV, up2, hq, rA, hv0, va_rf]
theorem g_new (C : GC base D cA p s m args meth c cc nL own) {α : Type} {f : Nat → Hp → Option α} {X : α} {idx ci N : Nat} {Cn : String} {T : u_T} (ty : Nat → FieldType) (hty : ∀ k, k < N → parseFieldDescriptor (T k).2.2.1 = some (ty k)) (hcl : vwCl[ci]? = some (Cn, T, N)) (h20 : ci < 20) (hNf : N = nf ci) (hin : ∀ w ∈ u_ws Cn T N, w ∈ lw_tbl) (hl1 : Cond.classLink own idx Cn ∈ wsA) (hl2 : Cond.instantiable Cn N ∈ wsA) (hl3 : Cond.initialized Cn ∈ wsA) (hdf : ∀ j, j < N → defaultValue (ty j) = fv base (fun _ => 0) (fun _ => 0) (fun _ => 0) ci j) (hcells : cells + 1 ≤ R.cells) (hslots : slots + N ≤ R.slots) (d : decode cc pc = .ok (.new idx, 3)) (E : newO h ci f = some X)
    (kk : ∀ (x : Nat) (h2 : Hp), f x h2 = some X → GW base D cA p l e R s m args below meth c Q nL h2 (cells + 1) (slots + N) (pc + 3) lv (.ref (base + x) :: st)) : GW base D cA p l e R s m args below meth c Q nL h cells slots pc lv st := by
  intro H locs ls hRp hS hl
  have hts := C.2.2.2.2.1
  have hKn := C.2.2.2.2.2.1.1 ci _ hcl
  refine W.newcK C.1 C.2.1 C.2.2.2.1 (hts _ hl1) (hts _ hl2) (hts _ hl3) rfl d hcells hslots hKn.2.1 hRp.1 fun H1 kC hkC e1 z1 o1 => ?_
  have o2 : ∀ q : Nat, q < H.size → H1[q]? = H[q]? := fun q hq => o1 q (by rw [← hRp.1]; exact hq)
  have hsz := hRp.1
  have hs : va_S (AA base) s.heap H1 locs := ⟨Nat.le_trans hS.1 (by omega), fun x g1 g2 => (o2 x (Nat.lt_of_lt_of_le g1 hS.1)).trans (hS.2.1 x g1 g2), hS.2.2⟩
  refine W.eq (by rw [show base + 1 + hN h = base + (hN h + 1) by omega]) (kk _ _ E H1 locs ls (hRp.push rfl (fun a ha => ?_) (fun b hb => hE_nO hb) ?_ (by omega) o2) hs hl)
  · by_cases q : a = hN h + 1
    · omega
    · have ha' : (hT h a).1 < 99 := by
        have : hT (nO h ci 0) a = hT h a := if_neg q
        rw [this] at ha
        exact ha
      have := hRp.2.2 a ha'
      omega
  · rw [hE_nO_self]
    unfold cE
    rw [if_pos h20]
    refine ⟨_, hcl, (u_born ty hts (wsA_lays hin) hKn hkC e1 hty).to (fun j hj => ?_)⟩
    rw [hdf j hj]
    show _ = ((List.range (nf ci)).map (fv base (fun _ => 0) (fun _ => 0) (fun _ => 0) ci)).getD j .null
    rw [List.getD_eq_getElem?_getD, fv_at (by omega)]
    rfl
end GROWS
end
section
/-! calls, returns, arrays made, switches: rows over the model's heap -/
def PcG (base : Nat) (D : va_G) (cA : Nat → ClassId) (avs : List Value) (h : Hp) : Array Value → State → Prop := va_Pc avs (fun U => Rp base D cA h U.heap ∧ va_K D vwCl (tyL cA) U ∧ LowS base U U.heap)
def QcI (base : Nat) (D : va_G) (cA : Nat → ClassId) (r : Int32) (h' : Hp) : Array Value → State → Outcome → State → Prop := va_Qi (fun v (_ : Unit) => v = r) (fun _ t => Rp base D cA h' t.heap) (AA base)
def QcU (base : Nat) (D : va_G) (cA : Nat → ClassId) (h' : Hp) : Array Value → State → Outcome → State → Prop := va_Qv (fun (_ : Unit) => True) (fun _ t => Rp base D cA h' t.heap) (AA base)
def QcR (base : Nat) (D : va_G) (cA : Nat → ClassId) (r : Nat) (h' : Hp) : Array Value → State → Outcome → State → Prop := va_Qr (fun (_ : Unit) => True) (fun _ a t => a = base + r ∧ Rp base D cA h' t.heap) (AA base)
theorem good_wsA {ws : List Cond} (h : ∀ w ∈ ws, w ∈ wsA) : GoodIn wsA ws := fun w hw => ⟨h w hw, good_of_word (List.mem_filter.mp (h w hw)).2⟩
theorem in_wsA {w : Cond} (n : Nat) (h : lw_tbl[n]? = some w) (hg : goodWord w = true) : w ∈ wsA := List.mem_filter.mpr ⟨List.mem_of_getElem? h, hg⟩
theorem LowS.go {base : Nat} {s U : State} {H : Heap} {locs : List Loc} (hb : base + 1 ≤ s.heap.size) (h : LowS base s s.heap) (hS : va_S (AA base) s.heap H locs) (hW : s.WarmedH U.vm) : LowS base U H := by
  obtain ⟨n1, n2, n3, n4, n5, o1, o2, o3, b1, b2, l1, l2, z1, z2, x1, x2⟩ := h
  have kp : ∀ b : Nat, b ≤ base → H[b]? = s.heap[b]? := fun b q => hS.2.1 b (by omega) (fun z => by have : base + 1 ≤ b := z; omega)
  exact ⟨n1.warmM hW, n2.warmM hW, n3.warmM hW, n4.warmM hW, n5.warmM hW, o1.moved hW.alike, o2.moved hW.alike, o3.moved hW.alike, b1, b2, l1, l2, (z1.moved hW.alike).kept (fun a q1 q2 => hS.2.1 a q1 q2), (z2.moved hW.alike).kept (fun a q1 q2 => hS.2.1 a q1 q2), (x1.moved hW.alike).kept (kp b1 l1), (x2.moved hW.alike).kept (kp b2 l2)⟩
theorem PcG_blind {base : Nat} {D : va_G} {cA : Nat → ClassId} {avs : List Value} {h : Hp} : FrameBlind (PcG base D cA avs h) := by
  intro a U g mk q
  obtain ⟨q0, qR, qK, n1, n2, n3, n4, n5, o1, o2, o3, b1, b2, l1, l2, z1, z2, x1, x2⟩ := q
  have hv := Vm.Alike.refl U.vm
  exact ⟨q0, qR, va_K.moved (u := U) (U := U.calling g mk a) hv qK, n1.same rfl rfl, n2.same rfl rfl, n3.same rfl rfl, n4.same rfl rfl, n5.same rfl rfl, o1.moved (U := U.calling g mk a) hv, o2.moved (U := U.calling g mk a) hv, o3.moved (U := U.calling g mk a) hv, b1, b2, l1, l2, z1.moved (U := U.calling g mk a) hv, z2.moved (U := U.calling g mk a) hv, x1.moved (U := U.calling g mk a) hv, x2.moved (U := U.calling g mk a) hv⟩
/-- a call's links: own class, its constant's place, the method, its code, its locals, what it returns, how many arguments -/
def CL (own : String) (idx : Nat) (y : MethodName) (b : ByteArray) (nLc : Nat) (ret : Option FieldType) (nA : Nat) : Prop :=
  Cond.methodLink own idx y ∈ wsA ∧ Cond.initialized y.cls ∈ wsA ∧ Cond.code y b nLc ret ∈ wsA ∧ (y.cls ≠ "java/lang/invoke/MethodHandle" ∧ y.cls ≠ "java/lang/invoke/VarHandle" ∧ (parseMethodDescriptor y.desc).map (fun d => d.parameters.length) = some nA)
def CLV (y : MethodName) : Prop := Cond.instanceMethod y ∈ wsA ∧ Cond.selects y.cls y y ∈ wsA
section GCALLS
variable {base : Nat} {D : va_G} {cA : Nat → ClassId} {p : Program} {l : Launch} {e : Env} {R : Room} {s : State} {m : MethodId} {args : Array Value} {below : List Frame} {meth : Method} {c : Code} {Q : State → Prop} {nL : Nat} {h : Hp} {cells slots pc : Nat} {lv : List (Nat × Value)} {st : List Value} {cc : ByteArray} {own : String}
theorem g_widen (k n : Nat) (h1 : cells ≤ k) (h2 : slots ≤ n) (kk : GW base D cA p l e R s m args below meth c Q nL h k n pc lv st) : GW base D cA p l e R s m args below meth c Q nL h cells slots pc lv st :=
  fun H locs ls hR hS hl => W.widen h1 h2 (kk H locs ls hR hS hl)
theorem g_sub {lv' : List (Nat × Value)} (ks : List Nat) (hs : lv_pick lv ks = lv') (kk : GW base D cA p l e R s m args below meth c Q nL h cells slots pc lv' st) : GW base D cA p l e R s m args below meth c Q nL h cells slots pc lv st :=
  fun H locs ls hR hS hl => kk H locs ls hR hS (lv_sub hl ks hs)
theorem g_lv {lv' : List (Nat × Value)} (hs : lv' = lv) (kk : GW base D cA p l e R s m args below meth c Q nL h cells slots pc lv' st) : GW base D cA p l e R s m args below meth c Q nL h cells slots pc lv st := hs ▸ kk
theorem g_iret (C : GC base D cA p s m args meth c cc nL own) {r v : Int32} {h' : Hp} (d : decode cc pc = .ok (.ireturn, 1)) (hr : meth.sig.returnType = some .int) (E : retI v h = some (r, h')) : GW base D cA p l e R s m args below meth c (MQ below (QcI base D cA r h') args s cells slots (AA base)) nL h cells slots pc lv [.int v] := by
  intro H locs ls hRp hS hl
  cases E
  exact W.iret C.1 C.2.1 hr (fun t ht _ => ⟨⟨_, (), rfl, rfl, (by rw [← ht] at hRp; exact hRp)⟩, hS.F ht⟩) hS.2.2 d C.2.2.2.2.2.2.1
theorem g_zret (C : GC base D cA p s m args meth c cc nL own) {r v : Int32} {h' : Hp} (d : decode cc pc = .ok (.ireturn, 1)) (hr : meth.sig.returnType = some .boolean) (E : retZ v h = some (r, h')) : GW base D cA p l e R s m args below meth c (MQ below (QcI base D cA r h') args s cells slots (AA base)) nL h cells slots pc lv [.int v] := by
  intro H locs ls hRp hS hl
  obtain ⟨hv, E⟩ := ite_some E
  cases E
  exact W.zret C.1 C.2.1 hr (by rcases hv with rfl | rfl <;> rfl) (fun t ht _ => ⟨⟨_, (), rfl, rfl, (by rw [← ht] at hRp; exact hRp)⟩, hS.F ht⟩) hS.2.2 d C.2.2.2.2.2.2.1
theorem g_cret (C : GC base D cA p s m args meth c cc nL own) {r v : Int32} {h' : Hp} (d : decode cc pc = .ok (.ireturn, 1)) (hr : meth.sig.returnType = some .char) (E : retC v h = some (r, h')) : GW base D cA p l e R s m args below meth c (MQ below (QcI base D cA r h') args s cells slots (AA base)) nL h cells slots pc lv [.int v] := by
  intro H locs ls hRp hS hl
  obtain ⟨hv, E⟩ := ite_some E
  cases E
  exact W.zret C.1 C.2.1 hr (congrArg Value.int hv) (fun t ht _ => ⟨⟨_, (), rfl, rfl, (by rw [← ht] at hRp; exact hRp)⟩, hS.F ht⟩) hS.2.2 d C.2.2.2.2.2.2.1
theorem g_vret (C : GC base D cA p s m args meth c cc nL own) {u : Unit} {h' : Hp} (d : decode cc pc = .ok (.return_, 1)) (hr : meth.sig.returnType = none) (E : retU h = some (u, h')) : GW base D cA p l e R s m args below meth c (MQ below (QcU base D cA h') args s cells slots (AA base)) nL h cells slots pc lv [] := by
  intro H locs ls hRp hS hl
  cases E
  exact W.vret C.1 C.2.1 hr (fun t ht _ => ⟨⟨(), rfl, trivial, (by rw [← ht] at hRp; exact hRp)⟩, hS.F ht⟩) hS.2.2 d C.2.2.2.2.2.2.1
theorem g_aret (C : GC base D cA p s m args meth c cc nL own) {r v : Nat} {h' : Hp} {n : String} (d : decode cc pc = .ok (.areturn, 1)) (hr : meth.sig.returnType = some (.object n)) (E : retR v h = some (r, h')) : GW base D cA p l e R s m args below meth c (MQ below (QcR base D cA r h') args s cells slots (AA base)) nL h cells slots pc lv [.ref (base + v)] := by
  intro H locs ls hRp hS hl
  cases E
  exact W.aret C.1 C.2.1 hr (Or.inl ⟨n, rfl⟩) (Or.inr ⟨_, rfl⟩) (fun t ht _ => ⟨⟨(), _, rfl, trivial, rfl, (by rw [← ht] at hRp; exact hRp)⟩, hS.F ht⟩) hS.2.2 d C.2.2.2.2.2.2.1
/-- a method's contract, from its body -/
theorem g_met {y : MethodName} {b : ByteArray} {nL : Nat} {ret : Option FieldType} {rm : Room} {Qc : Array Value → State → Outcome → State → Prop} {mc ms : Nat} (avs : List Value) (hy : plainName y.cls = true) (hn : (lg_sl avs).length ≤ nL)
    (body : ∀ (p : Program) (e : Env) (s : State) (m : MethodId) (args : Array Value) (below : List Frame) (meth : Method) (c : Code), GC base D cA p s m args meth c b nL y.cls → meth.sig.returnType = ret → meth.name = y.name → GW base D cA p l e rm s m args below meth c (MQ below Qc args s mc ms (AA base)) nL h 0 0 0 (lv_args 0 avs) []) : Met l y (.code y b nL ret :: wsA) rm (PcG base D cA avs h) Qc mc ms (AA base) := by
  refine Met.ofW (cc := b) (maxL := nL) (ret := ret) hy rfl ?_
  intro p e s m args below meth c s₁ B hml hv
  obtain ⟨rfl, hRp, hK, hLow⟩ := hv
  have hts := atoms_spec (ws := .code y b nL ret :: wsA) B.pre
  have hsz := hRp.1
  have hl := lv_entry avs (n := nL) hn
  rw [lg_entry_eq]
  generalize (lg_sl avs ++ List.replicate (nL - (lg_sl avs).length) Slot.unset).toArray = ls at hl ⊢
  exact body p e s m _ below meth c ⟨B.exec, B.bytes, hml, findClass_of_methodNamed B.named, fun w hw => hts w (List.mem_cons_of_mem _ hw), hK, B.notSynchronized, by omega, hLow⟩ B.returns (name_of_methodNamed B.named B.method).1 s.heap [] ls hRp va_S.rf hl
theorem code_sub {y : MethodName} {b : ByteArray} {nLc : Nat} {ret : Option FieldType} (h : Cond.code y b nLc ret ∈ wsA) : ∀ w ∈ (Cond.code y b nLc ret :: wsA : List Cond), w ∈ wsA := fun w hw => (List.mem_cons.mp hw).elim (fun q => by rw [q]; exact h) id
theorem wsV_sub {idx nLc nA : Nat} {y : MethodName} {b : ByteArray} {ret : Option FieldType} (c1 : CL own idx y b nLc ret nA) (c2 : CLV y) : ∀ w ∈ wsV own idx y.cls y (.code y b nLc ret :: wsA), w ∈ wsA := by
  intro w hw
  rcases List.mem_append.mp hw with q | q
  · simp only [List.mem_cons, List.not_mem_nil, or_false] at q
    rcases q with rfl | rfl | rfl | rfl
    · exact c1.1
    · exact c2.1
    · exact c2.2
    · exact c1.2.1
  · exact code_sub c1.2.2.1 w q
theorem wsS_sub {idx nLc nA : Nat} {y : MethodName} {b : ByteArray} {ret : Option FieldType} (c1 : CL own idx y b nLc ret nA) (c2 : Cond.static y ∈ wsA) (ho : y.cls = own) : ∀ w ∈ wsS own idx y (.code y b nLc ret :: wsA), w ∈ wsA := by
  intro w hw
  rcases List.mem_append.mp hw with q | q
  · simp only [List.mem_cons, List.not_mem_nil, or_false] at q
    rcases q with rfl | rfl | rfl
    · exact c1.1
    · exact c2
    · rw [← ho]; exact c1.2.1
  · exact code_sub c1.2.2.1 w q
theorem PcG_pre (C : GC base D cA p s m args meth c cc nL own) {H : Heap} {locs : List Loc} {avs : List Value} (hRp : Rp base D cA h H) (hS : va_S (AA base) s.heap H locs) (U : State) (hU : U.heap = H) (hW : s.WarmedH U.vm) : PcG base D cA avs h avs.toArray U :=
  ⟨rfl, by rw [hU]; exact hRp, va_K.moved hW.alike C.2.2.2.2.2.1, by rw [hU]; exact C.2.2.2.2.2.2.2.2.go C.2.2.2.2.2.2.2.1 hS hW⟩
theorem g_invI (C : GC base D cA p s m args meth c cc nL own) {α : Type} {f : Int32 → Hp → Option α} {X : α} {a idx ci nLc nA : Nat} {o : Rv Int32} {y : MethodName} {b : ByteArray} {ret : Option FieldType} {rm : Room} {q : vw_C} {stk : List Value} (As : List Value) (d : decode cc pc = .ok (.invokevirtual idx, 3)) (c1 : CL own idx y b nLc ret nA) (c2 : CLV y) (hcl : vwCl[ci]? = some q) (hci : ci < 20) (hyc : q.1 = y.cls) (hA : As.length = nA) (hR : rm.frames + 1 ≤ R.frames ∧ 8 + (nLc + 11) + rm.locals ≤ R.locals) (hcat : (st.map fun v => v.category).sum ≤ 8) (hf : cells + rm.cells ≤ R.cells ∧ slots + rm.slots ≤ R.slots) (hst : stk = As.reverse ++ .ref (base + a) :: st)
    (M : ∀ r' h', o = some (r', h') → Met l y (.code y b nLc ret :: wsA) rm (PcG base D cA (.ref (base + a) :: As) h) (QcI base D cA r' h') rm.cells rm.slots (AA base)) (E : inv h a ci o f = some X) (kk : ∀ r' h', f r' h' = some X → GW base D cA p l e R s m args below meth c Q nL h' (cells + rm.cells) (slots + rm.slots) (pc + 3) lv (.int r' :: st)) : GW base D cA p l e R s m args below meth c Q nL h cells slots pc lv stk := by
  intro H locs ls hRp hS hl
  obtain ⟨hc, E⟩ := ite_some E
  obtain ⟨r', h', ho, E⟩ := bnd_some E
  obtain ⟨h1, h2, he⟩ := hRp.at (a := a) (by omega)
  rw [hE_obj hc hci] at he
  obtain ⟨Cq, Tq, Nq⟩ := q
  cases hyc
  refine va_calli (va_runV (As := As) (rest := st) ⟨C.1, C.2.1, C.2.2.1, C.2.2.2.1, C.2.2.2.2.1⟩ (M r' h' ho) (cwV nA C.2.2.2.2.1 (good_wsA (wsV_sub c1 c2)) rfl rfl rfl ⟨rfl, c1.2.2.2⟩ hR) ⟨PcG_blind, va_recv C.2.2.2.2.2.1 hRp.2.1 hcl he, fun U hU hW => PcG_pre C hRp hS U hU hW⟩ rfl hA hl.1 hst (lv_room hcat) d hf) hS (fun q _ hq => hq) (fun q hq => hq) (fun r1 u t H1 locs1 ht hvm hw hB hz hk hS1 => ?_)
  cases hw
  rw [ht] at hB
  exact kk r' h' E H1 locs1 ls hB hS1 hl
theorem g_invU (C : GC base D cA p s m args meth c cc nL own) {α : Type} {f : Unit → Hp → Option α} {X : α} {a idx ci nLc nA : Nat} {o : Rv Unit} {y : MethodName} {b : ByteArray} {ret : Option FieldType} {rm : Room} {q : vw_C} {stk : List Value} (As : List Value) (d : decode cc pc = .ok (.invokevirtual idx, 3)) (c1 : CL own idx y b nLc ret nA) (c2 : CLV y) (hcl : vwCl[ci]? = some q) (hci : ci < 20) (hyc : q.1 = y.cls) (hA : As.length = nA) (hR : rm.frames + 1 ≤ R.frames ∧ 8 + (nLc + 11) + rm.locals ≤ R.locals) (hcat : (st.map fun v => v.category).sum ≤ 8) (hf : cells + rm.cells ≤ R.cells ∧ slots + rm.slots ≤ R.slots) (hst : stk = As.reverse ++ .ref (base + a) :: st)
    (M : ∀ r' h', o = some (r', h') → Met l y (.code y b nLc ret :: wsA) rm (PcG base D cA (.ref (base + a) :: As) h) (QcU base D cA h') rm.cells rm.slots (AA base)) (E : inv h a ci o f = some X) (kk : ∀ r' h', f r' h' = some X → GW base D cA p l e R s m args below meth c Q nL h' (cells + rm.cells) (slots + rm.slots) (pc + 3) lv st) : GW base D cA p l e R s m args below meth c Q nL h cells slots pc lv stk := by
  intro H locs ls hRp hS hl
  obtain ⟨hc, E⟩ := ite_some E
  obtain ⟨r', h', ho, E⟩ := bnd_some E
  obtain ⟨h1, h2, he⟩ := hRp.at (a := a) (by omega)
  rw [hE_obj hc hci] at he
  obtain ⟨Cq, Tq, Nq⟩ := q
  cases hyc
  refine va_callv (va_runV (As := As) (rest := st) ⟨C.1, C.2.1, C.2.2.1, C.2.2.2.1, C.2.2.2.2.1⟩ (M r' h' ho) (cwV nA C.2.2.2.2.1 (good_wsA (wsV_sub c1 c2)) rfl rfl rfl ⟨rfl, c1.2.2.2⟩ hR) ⟨PcG_blind, va_recv C.2.2.2.2.2.1 hRp.2.1 hcl he, fun U hU hW => PcG_pre C hRp hS U hU hW⟩ rfl hA hl.1 hst (lv_room hcat) d hf) hS (fun q _ hq => hq) (fun q hq => hq) (fun u t H1 locs1 ht hvm hw hB hz hk hS1 => ?_)
  
  rw [ht] at hB
  exact kk r' h' E H1 locs1 ls hB hS1 hl
theorem g_invR (C : GC base D cA p s m args meth c cc nL own) {α : Type} {f : Nat → Hp → Option α} {X : α} {a idx ci nLc nA : Nat} {o : Rv Nat} {y : MethodName} {b : ByteArray} {ret : Option FieldType} {rm : Room} {q : vw_C} {stk : List Value} (As : List Value) (d : decode cc pc = .ok (.invokevirtual idx, 3)) (c1 : CL own idx y b nLc ret nA) (c2 : CLV y) (hcl : vwCl[ci]? = some q) (hci : ci < 20) (hyc : q.1 = y.cls) (hA : As.length = nA) (hR : rm.frames + 1 ≤ R.frames ∧ 8 + (nLc + 11) + rm.locals ≤ R.locals) (hcat : (st.map fun v => v.category).sum ≤ 8) (hf : cells + rm.cells ≤ R.cells ∧ slots + rm.slots ≤ R.slots) (hst : stk = As.reverse ++ .ref (base + a) :: st)
    (M : ∀ r' h', o = some (r', h') → Met l y (.code y b nLc ret :: wsA) rm (PcG base D cA (.ref (base + a) :: As) h) (QcR base D cA r' h') rm.cells rm.slots (AA base)) (E : inv h a ci o f = some X) (kk : ∀ r' h', f r' h' = some X → GW base D cA p l e R s m args below meth c Q nL h' (cells + rm.cells) (slots + rm.slots) (pc + 3) lv (.ref (base + r') :: st)) : GW base D cA p l e R s m args below meth c Q nL h cells slots pc lv stk := by
  intro H locs ls hRp hS hl
  obtain ⟨hc, E⟩ := ite_some E
  obtain ⟨r', h', ho, E⟩ := bnd_some E
  obtain ⟨h1, h2, he⟩ := hRp.at (a := a) (by omega)
  rw [hE_obj hc hci] at he
  obtain ⟨Cq, Tq, Nq⟩ := q
  cases hyc
  refine va_callr (va_runV (As := As) (rest := st) ⟨C.1, C.2.1, C.2.2.1, C.2.2.2.1, C.2.2.2.2.1⟩ (M r' h' ho) (cwV nA C.2.2.2.2.1 (good_wsA (wsV_sub c1 c2)) rfl rfl rfl ⟨rfl, c1.2.2.2⟩ hR) ⟨PcG_blind, va_recv C.2.2.2.2.2.1 hRp.2.1 hcl he, fun U hU hW => PcG_pre C hRp hS U hU hW⟩ rfl hA hl.1 hst (lv_room hcat) d hf) hS (fun q _ hq => hq) (fun q hq => hq) (fun u ra t H1 locs1 ht hvm hw hB hz hk hS1 => ?_)
  obtain ⟨rfl, hB⟩ := hB
  rw [ht] at hB
  exact kk r' h' E H1 locs1 ls hB hS1 hl
theorem g_staI (C : GC base D cA p s m args meth c cc nL own) {α : Type} {f : Int32 → Hp → Option α} {X : α} {idx nLc nA : Nat} {o : Rv Int32} {y : MethodName} {b : ByteArray} {ret : Option FieldType} {rm : Room} {stk : List Value} (As : List Value) (d : decode cc pc = .ok (.invokestatic idx, 3)) (c1 : CL own idx y b nLc ret nA) (c2 : Cond.static y ∈ wsA) (hyc : y.cls = own) (hA : As.length = nA) (hR : rm.frames + 1 ≤ R.frames ∧ 8 + (nLc + 11) + rm.locals ≤ R.locals) (hcat : (st.map fun v => v.category).sum ≤ 8) (hf : cells + rm.cells ≤ R.cells ∧ slots + rm.slots ≤ R.slots) (hst : stk = As.reverse ++ st)
    (M : ∀ r' h', o = some (r', h') → Met l y (.code y b nLc ret :: wsA) rm (PcG base D cA As h) (QcI base D cA r' h') rm.cells rm.slots (AA base)) (E : bnd o f = some X) (kk : ∀ r' h', f r' h' = some X → GW base D cA p l e R s m args below meth c Q nL h' (cells + rm.cells) (slots + rm.slots) (pc + 3) lv (.int r' :: st)) : GW base D cA p l e R s m args below meth c Q nL h cells slots pc lv stk := by
  intro H locs ls hRp hS hl
  obtain ⟨r', h', ho, E⟩ := bnd_some E
  refine va_calli (va_runS (As := As) (rest := st) ⟨C.1, C.2.1, C.2.2.1, C.2.2.2.1, C.2.2.2.2.1⟩ (M r' h' ho) (cwS nA C.2.2.2.2.1 (good_wsA (wsS_sub c1 c2 hyc)) rfl rfl rfl ⟨hyc, c1.2.2.2⟩ hR) ⟨PcG_blind, fun U hU hW => PcG_pre C hRp hS U hU hW⟩ rfl hA hl.1 hst (lv_room hcat) d hf) hS (fun q _ hq => hq) (fun q hq => hq) (fun r1 u t H1 locs1 ht hvm hw hB hz hk hS1 => ?_)
  cases hw
  rw [ht] at hB
  exact kk r' h' E H1 locs1 ls hB hS1 hl
theorem g_staU (C : GC base D cA p s m args meth c cc nL own) {α : Type} {f : Unit → Hp → Option α} {X : α} {idx nLc nA : Nat} {o : Rv Unit} {y : MethodName} {b : ByteArray} {ret : Option FieldType} {rm : Room} {stk : List Value} (As : List Value) (d : decode cc pc = .ok (.invokestatic idx, 3)) (c1 : CL own idx y b nLc ret nA) (c2 : Cond.static y ∈ wsA) (hyc : y.cls = own) (hA : As.length = nA) (hR : rm.frames + 1 ≤ R.frames ∧ 8 + (nLc + 11) + rm.locals ≤ R.locals) (hcat : (st.map fun v => v.category).sum ≤ 8) (hf : cells + rm.cells ≤ R.cells ∧ slots + rm.slots ≤ R.slots) (hst : stk = As.reverse ++ st)
    (M : ∀ r' h', o = some (r', h') → Met l y (.code y b nLc ret :: wsA) rm (PcG base D cA As h) (QcU base D cA h') rm.cells rm.slots (AA base)) (E : bnd o f = some X) (kk : ∀ r' h', f r' h' = some X → GW base D cA p l e R s m args below meth c Q nL h' (cells + rm.cells) (slots + rm.slots) (pc + 3) lv st) : GW base D cA p l e R s m args below meth c Q nL h cells slots pc lv stk := by
  intro H locs ls hRp hS hl
  obtain ⟨r', h', ho, E⟩ := bnd_some E
  refine va_callv (va_runS (As := As) (rest := st) ⟨C.1, C.2.1, C.2.2.1, C.2.2.2.1, C.2.2.2.2.1⟩ (M r' h' ho) (cwS nA C.2.2.2.2.1 (good_wsA (wsS_sub c1 c2 hyc)) rfl rfl rfl ⟨hyc, c1.2.2.2⟩ hR) ⟨PcG_blind, fun U hU hW => PcG_pre C hRp hS U hU hW⟩ rfl hA hl.1 hst (lv_room hcat) d hf) hS (fun q _ hq => hq) (fun q hq => hq) (fun u t H1 locs1 ht hvm hw hB hz hk hS1 => ?_)
  
  rw [ht] at hB
  exact kk r' h' E H1 locs1 ls hB hS1 hl
theorem g_nstI (C : GC base D cA p s m args meth c cc nL own) {α : Type} {f : Int32 → Hp → Option α} {X : α} {idx nLc nA : Nat} {o : Rv Int32} {y : MethodName} {b : ByteArray} {ret : Option FieldType} {rm : Room} {stk : List Value} {host : String} (As : List Value) (d : decode cc pc = .ok (.invokestatic idx, 3)) (hln : va_Nw (.methodLinkNest own idx y host) s) (c1 : Cond.initialized y.cls ∈ wsA ∧ Cond.code y b nLc ret ∈ wsA ∧ (y.cls ≠ "java/lang/invoke/MethodHandle" ∧ y.cls ≠ "java/lang/invoke/VarHandle" ∧ (parseMethodDescriptor y.desc).map (fun d => d.parameters.length) = some nA)) (c2 : Cond.static y ∈ wsA) (hA : As.length = nA) (hR : rm.frames + 1 ≤ R.frames ∧ 8 + (nLc + 11) + rm.locals ≤ R.locals) (hcat : (st.map fun v => v.category).sum ≤ 8) (hf : cells + rm.cells ≤ R.cells ∧ slots + rm.slots ≤ R.slots) (hst : stk = As.reverse ++ st)
    (M : ∀ r' h', o = some (r', h') → Met l y (.code y b nLc ret :: wsA) rm (PcG base D cA As h) (QcI base D cA r' h') rm.cells rm.slots (AA base)) (E : bnd o f = some X) (kk : ∀ r' h', f r' h' = some X → GW base D cA p l e R s m args below meth c Q nL h' (cells + rm.cells) (slots + rm.slots) (pc + 3) lv (.int r' :: st)) : GW base D cA p l e R s m args below meth c Q nL h cells slots pc lv stk := by
  intro H locs ls hRp hS hl
  obtain ⟨r', h', ho, E⟩ := bnd_some E
  refine va_calli (va_runSN (Ts := wsA) (As := As) (rest := st) ⟨C.1, C.2.1, C.2.2.1, C.2.2.2.1, C.2.2.2.2.1⟩ (M r' h' ho) ⟨va_cnB nA C.2.2.2.2.1 (good_wsA (code_sub c1.2.1)) rfl rfl rfl hln (C.2.2.2.2.1 _ c1.1) c1.2.2 hR, C.2.2.2.2.1 _ c2, trivial⟩ ⟨PcG_blind, fun U hU hW => PcG_pre C hRp hS U hU hW⟩ rfl hA hl.1 hst (lv_room hcat) d hf) hS (fun q _ hq => hq) (fun q hq => hq) (fun r1 u t H1 locs1 ht hvm hw hB hz hk hS1 => ?_)
  cases hw
  rw [ht] at hB
  exact kk r' h' E H1 locs1 ls hB hS1 hl
theorem g_ini (C : GC base D cA p s m args meth c cc nL own) {α : Type} {f : Unit → Hp → Option α} {X : α} {a idx nLc nA : Nat} {o : Rv Unit} {y : MethodName} {b : ByteArray} {rm : Room} {stk : List Value} (As : List Value) (d : decode cc pc = .ok (.invokespecial idx, 3)) (c1 : CL own idx y b nLc none nA) (c2 : Cond.instanceMethod y ∈ wsA) (hyn : y.name = "<init>") (hA : As.length = nA) (hR : rm.frames + 1 ≤ R.frames ∧ 8 + (nLc + 11) + rm.locals ≤ R.locals) (hcat : (st.map fun v => v.category).sum ≤ 8) (hf : cells + rm.cells ≤ R.cells ∧ slots + rm.slots ≤ R.slots) (hst : stk = As.reverse ++ .ref (base + a) :: st)
    (M : ∀ r' h', o = some (r', h') → Met l y (.code y b nLc none :: wsA) rm (PcG base D cA (.ref (base + a) :: As) h) (QcU base D cA h') rm.cells rm.slots (AA base)) (E : bnd o f = some X) (kk : ∀ r' h', f r' h' = some X → GW base D cA p l e R s m args below meth c Q nL h' (cells + rm.cells) (slots + rm.slots) (pc + 3) lv st) : GW base D cA p l e R s m args below meth c Q nL h cells slots pc lv stk := by
  intro H locs ls hRp hS hl
  obtain ⟨r', h', ho, E⟩ := bnd_some E
  refine va_callv (va_runI (As := As) (rest := st) ⟨C.1, C.2.1, C.2.2.1, C.2.2.2.1, C.2.2.2.2.1⟩ (M r' h' ho) (cwI nA C.2.2.2.2.1 (good_wsA (code_sub c1.2.2.1)) rfl rfl rfl (C.2.2.2.2.1 _ c1.2.1) (C.2.2.2.2.1 _ c1.1) (C.2.2.2.2.1 _ c2) hyn c1.2.2.2 hR) ⟨PcG_blind, fun U hU hW => PcG_pre C hRp hS U hU hW⟩ rfl hA hl.1 hst (lv_room hcat) d hf) hS (fun q _ hq => hq) (fun q hq => hq) (fun u t H1 locs1 ht hvm hw hB hz hk hS1 => ?_)
  rw [ht] at hB
  exact kk r' h' E H1 locs1 ls hB hS1 hl
theorem g_nin (C : GC base D cA p s m args meth c cc nL own) {α : Type} {f : Unit → Hp → Option α} {X : α} {a idx nLc nA : Nat} {o : Rv Unit} {y : MethodName} {b : ByteArray} {rm : Room} {stk : List Value} {host : String} (As : List Value) (d : decode cc pc = .ok (.invokespecial idx, 3)) (hln : va_Nw (.methodLinkNest own idx y host) s) (c1 : Cond.initialized y.cls ∈ wsA ∧ Cond.code y b nLc none ∈ wsA ∧ (y.cls ≠ "java/lang/invoke/MethodHandle" ∧ y.cls ≠ "java/lang/invoke/VarHandle" ∧ (parseMethodDescriptor y.desc).map (fun d => d.parameters.length) = some nA)) (c2 : Cond.instanceMethod y ∈ wsA) (hyn : y.name = "<init>") (hA : As.length = nA) (hR : rm.frames + 1 ≤ R.frames ∧ 8 + (nLc + 11) + rm.locals ≤ R.locals) (hcat : (st.map fun v => v.category).sum ≤ 8) (hf : cells + rm.cells ≤ R.cells ∧ slots + rm.slots ≤ R.slots) (hst : stk = As.reverse ++ .ref (base + a) :: st)
    (M : ∀ r' h', o = some (r', h') → Met l y (.code y b nLc none :: wsA) rm (PcG base D cA (.ref (base + a) :: As) h) (QcU base D cA h') rm.cells rm.slots (AA base)) (E : bnd o f = some X) (kk : ∀ r' h', f r' h' = some X → GW base D cA p l e R s m args below meth c Q nL h' (cells + rm.cells) (slots + rm.slots) (pc + 3) lv st) : GW base D cA p l e R s m args below meth c Q nL h cells slots pc lv stk := by
  intro H locs ls hRp hS hl
  obtain ⟨r', h', ho, E⟩ := bnd_some E
  refine va_callv (va_runIN (Ts := wsA) (As := As) (rest := st) ⟨C.1, C.2.1, C.2.2.1, C.2.2.2.1, C.2.2.2.2.1⟩ (M r' h' ho) ⟨va_cnB nA C.2.2.2.2.1 (good_wsA (code_sub c1.2.1)) rfl rfl rfl hln (C.2.2.2.2.1 _ c1.1) c1.2.2 hR, hyn, C.2.2.2.2.1 _ c2⟩ ⟨PcG_blind, fun U hU hW => PcG_pre C hRp hS U hU hW⟩ rfl hA hl.1 hst (lv_room hcat) d hf) hS (fun q _ hq => hq) (fun q hq => hq) (fun u t H1 locs1 ht hvm hw hB hz hk hS1 => ?_)
  rw [ht] at hB
  exact kk r' h' E H1 locs1 ls hB hS1 hl
theorem g_mmax (C : GC base D cA p s m args meth c cc nL own) {x y : Int32} {idx : Nat} (d : decode cc pc = .ok (.invokestatic idx, 3)) (w1 : Cond.methodLink own idx Lib.Math.max.name ∈ wsA) (w2 : Cond.static Lib.Math.max.name ∈ wsA) (w3 : Cond.initialized "java/lang/Math" ∈ wsA) (w4 : Cond.code Lib.Math.max.name Lib.Math.max.code 2 (some .int) ∈ wsA) (hfr : 1 ≤ R.frames) (hlo : (st.map fun v => v.category).sum + 13 ≤ R.locals) (hc : cells ≤ R.cells) (hs : slots ≤ R.slots) (kk : GW base D cA p l e R s m args below meth c Q nL h cells slots (pc + 3) lv (.int (if x < y then y else x) :: st)) : GW base D cA p l e R s m args below meth c Q nL h cells slots pc lv (.int y :: .int x :: st) :=
  fun H locs ls hRp hS hl => va_mmax C.1 C.2.1 (by rw [C.2.2.1, hl.1]) C.2.2.2.1 (C.2.2.2.2.1 _ w1) (C.2.2.2.2.1 _ w2) (C.2.2.2.2.1 _ w3) (C.2.2.2.2.1 _ w4) hfr hlo hc hs d (kk H locs ls hRp hS hl)
theorem g_mmin (C : GC base D cA p s m args meth c cc nL own) {x y : Int32} {idx : Nat} (d : decode cc pc = .ok (.invokestatic idx, 3)) (w1 : Cond.methodLink own idx Lib.Math.min.name ∈ wsA) (w2 : Cond.static Lib.Math.min.name ∈ wsA) (w3 : Cond.initialized "java/lang/Math" ∈ wsA) (w4 : Cond.code Lib.Math.min.name Lib.Math.min.code 2 (some .int) ∈ wsA) (hfr : 1 ≤ R.frames) (hlo : (st.map fun v => v.category).sum + 13 ≤ R.locals) (hc : cells ≤ R.cells) (hs : slots ≤ R.slots) (kk : GW base D cA p l e R s m args below meth c Q nL h cells slots (pc + 3) lv (.int (if y < x then y else x) :: st)) : GW base D cA p l e R s m args below meth c Q nL h cells slots pc lv (.int y :: .int x :: st) :=
  fun H locs ls hRp hS hl => va_mmin C.1 C.2.1 (by rw [C.2.2.1, hl.1]) C.2.2.2.1 (C.2.2.2.2.1 _ w1) (C.2.2.2.2.1 _ w2) (C.2.2.2.2.1 _ w3) (C.2.2.2.2.1 _ w4) hfr hlo hc hs d (kk H locs ls hRp hS hl)
theorem g_lmax (C : GC base D cA p s m args meth c cc nL own) {x y : Int64} {idx : Nat} (d : decode cc pc = .ok (.invokestatic idx, 3)) (w1 : Cond.methodLink own idx Lib.MathLoose.max_long.x ∈ wsA) (w2 : Cond.static Lib.MathLoose.max_long.x ∈ wsA) (w3 : Cond.initialized "java/lang/Math" ∈ wsA) (w4 : Cond.code Lib.MathLoose.max_long.x Lib.MathLoose.max_long.code 4 (some .long) ∈ wsA) (hfr : 1 ≤ R.frames) (hlo : (st.map fun v => v.category).sum + 15 ≤ R.locals) (hc : cells ≤ R.cells) (hs : slots ≤ R.slots) (kk : GW base D cA p l e R s m args below meth c Q nL h cells slots (pc + 3) lv (.long (if y < x then x else y) :: st)) : GW base D cA p l e R s m args below meth c Q nL h cells slots pc lv (.long y :: .long x :: st) :=
  fun H locs ls hRp hS hl => va_mmax_long C.1 C.2.1 (by rw [C.2.2.1, hl.1]) C.2.2.2.1 (C.2.2.2.2.1 _ w1) (C.2.2.2.2.1 _ w2) (C.2.2.2.2.1 _ w3) (C.2.2.2.2.1 _ w4) hfr hlo hc hs d (kk H locs ls hRp hS hl)
theorem g_lmin (C : GC base D cA p s m args meth c cc nL own) {x y : Int64} {idx : Nat} (d : decode cc pc = .ok (.invokestatic idx, 3)) (w1 : Cond.methodLink own idx Lib.MathLoose.min_long.x ∈ wsA) (w2 : Cond.static Lib.MathLoose.min_long.x ∈ wsA) (w3 : Cond.initialized "java/lang/Math" ∈ wsA) (w4 : Cond.code Lib.MathLoose.min_long.x Lib.MathLoose.min_long.code 4 (some .long) ∈ wsA) (hfr : 1 ≤ R.frames) (hlo : (st.map fun v => v.category).sum + 15 ≤ R.locals) (hc : cells ≤ R.cells) (hs : slots ≤ R.slots) (kk : GW base D cA p l e R s m args below meth c Q nL h cells slots (pc + 3) lv (.long (if y < x then y else x) :: st)) : GW base D cA p l e R s m args below meth c Q nL h cells slots pc lv (.long y :: .long x :: st) :=
  fun H locs ls hRp hS hl => va_mmin_long C.1 C.2.1 (by rw [C.2.2.1, hl.1]) C.2.2.2.1 (C.2.2.2.2.1 _ w1) (C.2.2.2.2.1 _ w2) (C.2.2.2.2.1 _ w3) (C.2.2.2.2.1 _ w4) hfr hlo hc hs d (kk H locs ls hRp hS hl)
theorem g_obj (C : GC base D cA p s m args meth c cc nL own) {idx a : Nat} (d : decode cc pc = .ok (.invokespecial idx, 3)) (w1 : Cond.methodLink own idx Lib.objectInit ∈ wsA) (w2 : Cond.instanceMethod Lib.objectInit ∈ wsA) (w3 : Cond.code Lib.objectInit ⟨#[0xb1]⟩ 1 none ∈ wsA) (hfr : 1 ≤ R.frames) (hlo : 2 * 0 + (st.map fun v => v.category).sum + 12 ≤ R.locals) (kk : GW base D cA p l e R s m args below meth c Q nL h cells slots (pc + 3) lv st) : GW base D cA p l e R s m args below meth c Q nL h cells slots pc lv (.ref a :: st) :=
  fun H locs ls hRp hS hl => W.objInit C.1 C.2.1 C.2.2.2.1 (C.2.2.2.2.1 _ w1) (C.2.2.2.2.1 _ w2) (C.2.2.2.2.1 _ w3) rfl (by rw [C.2.2.1]; exact hl.1) rfl d hfr hlo (kk H locs ls hRp hS hl)
theorem g_tswIn (C : GC base D cA p s m args meth c cc nL own) {dflt lo hi : Int} {offs : Array Int} {len : Nat} {x : Int32} {off : Int} (v : Int32) (tgt : Nat) (hx : x = v) (d : decode cc pc = .ok (.tableswitch dflt lo hi offs, len)) (h1 : ¬ v.toInt < lo) (h2 : ¬ hi < v.toInt) (ho : offs[(v.toInt - lo).toNat]? = some off) (ht : (pc : Int) + off = (tgt : Int)) (kk : GW base D cA p l e R s m args below meth c Q nL h cells slots tgt lv st) : GW base D cA p l e R s m args below meth c Q nL h cells slots pc lv (.int x :: st) := by
  subst hx
  exact fun H locs ls hRp hS hl => lv_tableIn C.1 C.2.1 d h1 h2 ho ht (kk H locs ls hRp hS hl)
theorem g_tswDf (C : GC base D cA p s m args meth c cc nL own) {dflt lo hi : Int} {offs : Array Int} {len : Nat} {x : Int32} (tgt : Nat) (d : decode cc pc = .ok (.tableswitch dflt lo hi offs, len)) (ho : ∀ k : Int, lo ≤ k → k ≤ hi → x.toInt = k → offs[(k - lo).toNat]? = some dflt) (ht : (pc : Int) + dflt = (tgt : Int)) (kk : GW base D cA p l e R s m args below meth c Q nL h cells slots tgt lv st) : GW base D cA p l e R s m args below meth c Q nL h cells slots pc lv (.int x :: st) := by
  by_cases q : x.toInt < lo ∨ hi < x.toInt
  · exact fun H locs ls hRp hS hl => lv_tableOut C.1 C.2.1 d q ht (kk H locs ls hRp hS hl)
  · exact fun H locs ls hRp hS hl => lv_tableIn C.1 C.2.1 d (by omega) (by omega) (ho _ (by omega) (by omega) rfl) ht (kk H locs ls hRp hS hl)
theorem g_lsw (C : GC base D cA p s m args meth c cc nL own) {dflt : Int} {ps : Array (Int × Int)} {len : Nat} {x : Int32} {off : Int} (tgt : Nat) (d : decode cc pc = .ok (.lookupswitch dflt ps, len)) (hp : (ps.toList.zip (ps.toList.drop 1)).all (fun (a, next) => a.1 < next.1) = true) (ho : Op.lookupswitch.offset ps.toList dflt x.toInt = off) (ht : (pc : Int) + off = (tgt : Int)) (kk : GW base D cA p l e R s m args below meth c Q nL h cells slots tgt lv st) : GW base D cA p l e R s m args below meth c Q nL h cells slots pc lv (.int x :: st) :=
  fun H locs ls hRp hS hl => lv_lookup C.1 C.2.1 d hp ho ht (kk H locs ls hRp hS hl)
end GCALLS
end
section
/-! arrays made; the two static arrays -/
def ldS {α : Type} (tb : Nat → Int32) (i : Int32) (f : Int32 → Option α) : Option α := if 0 ≤ i ∧ i.toNatClampNeg < 4 then f (tb i.toNatClampNeg) else none
section GARR
variable {base : Nat} {D : va_G} {cA : Nat → ClassId} {p : Program} {l : Launch} {e : Env} {R : Room} {s : State} {m : MethodId} {args : Array Value} {below : List Frame} {meth : Method} {c : Code} {Q : State → Prop} {nL : Nat} {h : Hp} {cells slots pc : Nat} {lv : List (Nat × Value)} {st : List Value} {cc : ByteArray} {own : String}
theorem g_getsL (C : GC base D cA p s m args meth c cc nL own) {idx : Nat} (d : decode cc pc = .ok (.getstatic idx, 3)) (w : Cond.fieldLink own idx RX8 "LEAST_SETTING" "[I" ∈ wsA) (kk : ∀ b : Nat, b ≤ base → va_X b 4 leastS s s.heap → GW base D cA p l e R s m args below meth c Q nL h cells slots (pc + 3) lv (.ref b :: st)) : GW base D cA p l e R s m args below meth c Q nL h cells slots pc lv st := by
  intro H locs ls hRp hS hl
  obtain ⟨-, -, -, -, -, -, -, -, b1, b2, l1, l2, z1, z2, x1, x2⟩ := C.2.2.2.2.2.2.2.2
  exact va_gets C.1 C.2.1 z1 hS C.2.2.2.1 (C.2.2.2.2.1 _ w) (fun _ q => q) d (kk b1 l1 x1 H locs ls hRp hS hl)
theorem g_getsM (C : GC base D cA p s m args meth c cc nL own) {idx : Nat} (d : decode cc pc = .ok (.getstatic idx, 3)) (w : Cond.fieldLink own idx RX8 "MOST_SETTING" "[I" ∈ wsA) (kk : ∀ b : Nat, b ≤ base → va_X b 4 mostS s s.heap → GW base D cA p l e R s m args below meth c Q nL h cells slots (pc + 3) lv (.ref b :: st)) : GW base D cA p l e R s m args below meth c Q nL h cells slots pc lv st := by
  intro H locs ls hRp hS hl
  obtain ⟨-, -, -, -, -, -, -, -, b1, b2, l1, l2, z1, z2, x1, x2⟩ := C.2.2.2.2.2.2.2.2
  exact va_gets C.1 C.2.1 z2 hS C.2.2.2.1 (C.2.2.2.2.1 _ w) (fun _ q => q) d (kk b2 l2 x2 H locs ls hRp hS hl)
theorem g_sald (C : GC base D cA p s m args meth c cc nL own) {α : Type} {f : Int32 → Option α} {X : α} {b : Nat} {tb : Nat → Int32} {i : Int32} (hb : b ≤ base) (hX : va_X b 4 tb s s.heap) (d : decode cc pc = .ok (.iaload, 1)) (E : ldS tb i f = some X) (kk : ∀ x : Int32, f x = some X → GW base D cA p l e R s m args below meth c Q nL h cells slots (pc + 1) lv (.int x :: st)) : GW base D cA p l e R s m args below meth c Q nL h cells slots pc lv (.int i :: .ref b :: st) := by
  intro H locs ls hRp hS hl
  obtain ⟨hi, E⟩ := ite_some E
  have hz := C.2.2.2.2.2.2.2.1
  exact va_sld C.1 C.2.1 hX (by omega) (fun z => by have : base + 1 ≤ b := z; omega) hS (vpin_of hi) d (kk _ E H locs ls hRp hS hl)
/-- what a new cell's kind says of all kinds -/
theorem nO_kinds {H : Heap} {c0 n : Nat} (hRp : Rp base D cA h H) : ∀ a : Nat, (hT (nO h c0 n) a).1 < 99 → 1 ≤ a ∧ a ≤ hN h + 1 := by
  intro a ha
  by_cases q : a = hN h + 1
  · omega
  · have e : hT (nO h c0 n) a = hT h a := if_neg q
    rw [e] at ha
    have := hRp.2.2 a ha
    omega
theorem g_newa (C : GC base D cA p s m args meth c cc nL own) {α : Type} {f : Nat → Hp → Option α} {X : α} {ak cap : Nat} {n : Int32} {atype : ArrayType} {ty : FieldType} (t0 : Nat) (h20 : 20 ≤ ak) (h22 : ak < 22) (hty : newarray.typeOf atype = ty) (hz : defaultValue ty = .int 0) (hnm : ∀ (U : State) (cc : ClassId), va_RA U cc ty = (U.vm.findClass ("[" ++ ty.toString) = some cc)) (ht : (tyL cA)[t0]? = some (cA ak, ty)) (hw : Cond.arrayClass ty ∈ wsA) (hcap : cap * componentBytes ty ≤ 536870912) (hcells : cells + 1 ≤ R.cells) (hslots : slots + cap ≤ R.slots) (d : decode cc pc = .ok (.newarray atype, 2)) (E : newA h ak n cap f = some X)
    (kk : ∀ (x : Nat) (h2 : Hp), f x h2 = some X → GW base D cA p l e R s m args below meth c Q nL h2 (cells + 1) (slots + cap) (pc + 2) lv (.ref (base + x) :: st)) : GW base D cA p l e R s m args below meth c Q nL h cells slots pc lv (.int n :: st) := by
  intro H locs ls hRp hS hl
  subst hty
  obtain ⟨⟨hn, hc⟩, E⟩ := ite_some E
  have hK := C.2.2.2.2.2.1.2 t0 _ ht
  have hsz := hRp.1
  refine va_newaK (N := n.toNatClampNeg) C.1 C.2.1 (C.2.2.2.2.1 _ hw) rfl d rfl (Int32.not_lt.mpr hn) rfl (Nat.le_trans (Nat.mul_le_mul_right _ hc) hcap) hcells (by omega) hRp.1 fun H1 cA1 e1 z1 o1 hAr hNm => ?_
  have hA1 : cA1 = cA ak := by
    have h3 := hK.2
    rw [hnm] at h3
    exact Option.some.inj (hNm.symm.trans h3)
  subst hA1
  have o2 : ∀ q : Nat, q < H.size → H1[q]? = H[q]? := fun q hq => o1 q (by rw [← hRp.1]; exact hq)
  have hs : va_S (AA base) s.heap H1 locs := ⟨Nat.le_trans hS.1 (by omega), fun x g1 g2 => (o2 x (Nat.lt_of_lt_of_le g1 hS.1)).trans (hS.2.1 x g1 g2), hS.2.2⟩
  refine W.widen (k := cells + 1) (n := slots + cap) (Nat.le_refl _) (by omega) (W.eq (by rw [show base + 1 + hN h = base + (hN h + 1) by omega]) (kk _ _ E H1 locs ls (hRp.push rfl (nO_kinds hRp) (fun b hb => hE_nO hb) ?_ (by omega) o2) hs hl))
  rw [hE_nO_self]
  unfold cE
  rw [if_neg (by omega), if_pos h22]
  show H1[base + 1 + hN h]? = some (vp_cell _ _)
  rw [e1, hz, vp_cell_i]
theorem g_anew (C : GC base D cA p s m args meth c cc nL own) {α : Type} {f : Nat → Hp → Option α} {X : α} {ak cap idx : Nat} {n : Int32} {Cn : String} (t0 : Nat) (h22 : 22 ≤ ak) (ht : (tyL cA)[t0]? = some (cA ak, .object Cn)) (hw : Cond.classLink own idx Cn ∈ wsA) (hao : va_AO Cn s) (hcap : cap * 4 ≤ 536870912) (hcells : cells + 1 ≤ R.cells) (hslots : slots + cap ≤ R.slots) (d : decode cc pc = .ok (.anewarray idx, 3)) (E : newA h ak n cap f = some X)
    (kk : ∀ (x : Nat) (h2 : Hp), f x h2 = some X → GW base D cA p l e R s m args below meth c Q nL h2 (cells + 1) (slots + cap) (pc + 3) lv (.ref (base + x) :: st)) : GW base D cA p l e R s m args below meth c Q nL h cells slots pc lv (.int n :: st) := by
  intro H locs ls hRp hS hl
  obtain ⟨⟨hn, hc⟩, E⟩ := ite_some E
  obtain ⟨kA0, comp0, g1, g2, g3, g4⟩ := (C.2.2.2.2.2.1.2 t0 _ ht).2
  have hsz := hRp.1
  refine W.anew C.1 C.2.1 C.2.2.2.1 (C.2.2.2.2.1 _ hw) (va_AO.use hao) rfl d rfl (Int32.not_lt.mpr hn) (by omega) hcells (by omega) fun cA1 kA comp f1 f2 f3 f4 => ?_
  have hA1 : cA1 = cA ak := Option.some.inj (f1.symm.trans g4)
  subst hA1
  generalize hH1 : H.push ({ cls := cA ak, slots := Array.replicate n.toNatClampNeg .null, vm := .none } : Cell) = H1
  have z1 : H1.size = H.size + 1 := by rw [← hH1, Array.size_push]
  have e1 : H1[H.size]? = some (arrV (cA ak) n.toNatClampNeg (fun _ => .null)) := by rw [← hH1, Array.getElem?_push_size, ← arrV_new]
  have o2 : ∀ q : Nat, q < H.size → H1[q]? = H[q]? := fun q hq => by rw [← hH1, Array.getElem?_push, if_neg (Nat.ne_of_lt hq)]
  have hs : va_S (AA base) s.heap H1 locs := ⟨Nat.le_trans hS.1 (by omega), fun x g1 g2 => (o2 x (Nat.lt_of_lt_of_le g1 hS.1)).trans (hS.2.1 x g1 g2), hS.2.2⟩
  refine W.widen (k := cells + 1) (n := slots + cap) (Nat.le_refl _) (by omega) (W.eq (by rw [hsz, show base + 1 + hN h = base + (hN h + 1) by omega]) (kk _ _ E H1 locs ls (hRp.push rfl (nO_kinds hRp) (fun b hb => hE_nO hb) ?_ z1 o2) hs hl))
  rw [hE_nO_self]
  unfold cE
  rw [if_neg (by omega), if_neg (by omega)]
  show H1[base + 1 + hN h]? = some (vp_cell _ _)
  rw [← hsz, e1, vp_cell_q]
  rfl
end GARR
end
