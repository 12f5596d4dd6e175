section
/-- a private method of a class that the tables say can be made, by its rows of tables_1 -/
def lw_okq (q : MethodName × Nat) : Prop := (q.1.cls ≠ "java/lang/invoke/MethodHandle" ∧ q.1.cls ≠ "java/lang/invoke/VarHandle") ∧ Cond.instantiable q.1.cls q.2 ∈ tables_1 ∧ Cond.privateMethod q.1 ∈ tables_1 ∧ Cond.instanceMethod q.1 ∈ tables_1
theorem lw_p0 : lw_okq (⟨"RamStation", "keepState", "()V"⟩, 11) := ⟨⟨by decide +kernel, by decide +kernel⟩, List.mem_of_getElem? (i := 14) (by decide +kernel), List.mem_of_getElem? (i := 328) (by decide +kernel), List.mem_of_getElem? (i := 329) (by decide +kernel)⟩
theorem lw_p1 : lw_okq (⟨"RamStation", "tickStation", "()I"⟩, 11) := ⟨⟨by decide +kernel, by decide +kernel⟩, List.mem_of_getElem? (i := 14) (by decide +kernel), List.mem_of_getElem? (i := 408) (by decide +kernel), List.mem_of_getElem? (i := 409) (by decide +kernel)⟩
theorem lw_p2 : lw_okq (⟨"RamStation", "noteIncidents", "(I)V"⟩, 11) := ⟨⟨by decide +kernel, by decide +kernel⟩, List.mem_of_getElem? (i := 14) (by decide +kernel), List.mem_of_getElem? (i := 466) (by decide +kernel), List.mem_of_getElem? (i := 467) (by decide +kernel)⟩
theorem lw_p3 : lw_okq (⟨"RamStation", "perform", "(I)I"⟩, 11) := ⟨⟨by decide +kernel, by decide +kernel⟩, List.mem_of_getElem? (i := 14) (by decide +kernel), List.mem_of_getElem? (i := 523) (by decide +kernel), List.mem_of_getElem? (i := 524) (by decide +kernel)⟩
theorem lw_p4 : lw_okq (⟨"RamStation", "valveKindOf", "(I)I"⟩, 11) := ⟨⟨by decide +kernel, by decide +kernel⟩, List.mem_of_getElem? (i := 14) (by decide +kernel), List.mem_of_getElem? (i := 535) (by decide +kernel), List.mem_of_getElem? (i := 536) (by decide +kernel)⟩
theorem lw_p5 : lw_okq (⟨"RamStation", "tickTrial", "()V"⟩, 11) := ⟨⟨by decide +kernel, by decide +kernel⟩, List.mem_of_getElem? (i := 14) (by decide +kernel), List.mem_of_getElem? (i := 663) (by decide +kernel), List.mem_of_getElem? (i := 664) (by decide +kernel)⟩
theorem lw_p6 : lw_okq (⟨"RamStation", "trialDelivery", "(I)I"⟩, 11) := ⟨⟨by decide +kernel, by decide +kernel⟩, List.mem_of_getElem? (i := 14) (by decide +kernel), List.mem_of_getElem? (i := 672) (by decide +kernel), List.mem_of_getElem? (i := 673) (by decide +kernel)⟩
theorem lw_p7 : lw_okq (⟨"RamStation", "ticksFromSlamLikeLast", "()I"⟩, 11) := ⟨⟨by decide +kernel, by decide +kernel⟩, List.mem_of_getElem? (i := 14) (by decide +kernel), List.mem_of_getElem? (i := 690) (by decide +kernel), List.mem_of_getElem? (i := 691) (by decide +kernel)⟩
theorem lw_p8 : lw_okq (⟨"RamStation", "deliveryFromRest", "(LRamStation$Pump;III)I"⟩, 11) := ⟨⟨by decide +kernel, by decide +kernel⟩, List.mem_of_getElem? (i := 14) (by decide +kernel), List.mem_of_getElem? (i := 698) (by decide +kernel), List.mem_of_getElem? (i := 699) (by decide +kernel)⟩
theorem lw_p9 : lw_okq (⟨"RamStationModel", "record", "()V"⟩, 19) := ⟨⟨by decide +kernel, by decide +kernel⟩, List.mem_of_getElem? (i := 706) (by decide +kernel), List.mem_of_getElem? (i := 781) (by decide +kernel), List.mem_of_getElem? (i := 782) (by decide +kernel)⟩
theorem lw_p10 : lw_okq (⟨"RamStationModel", "valveRefused", "(III)I"⟩, 19) := ⟨⟨by decide +kernel, by decide +kernel⟩, List.mem_of_getElem? (i := 706) (by decide +kernel), List.mem_of_getElem? (i := 792) (by decide +kernel), List.mem_of_getElem? (i := 793) (by decide +kernel)⟩
theorem lw_p11 : lw_okq (⟨"RamStationModel", "isPump", "(I)Z"⟩, 19) := ⟨⟨by decide +kernel, by decide +kernel⟩, List.mem_of_getElem? (i := 706) (by decide +kernel), List.mem_of_getElem? (i := 796) (by decide +kernel), List.mem_of_getElem? (i := 797) (by decide +kernel)⟩
theorem lw_p12 : lw_okq (⟨"RamStationModel", "valveNow", "(III)I"⟩, 19) := ⟨⟨by decide +kernel, by decide +kernel⟩, List.mem_of_getElem? (i := 706) (by decide +kernel), List.mem_of_getElem? (i := 800) (by decide +kernel), List.mem_of_getElem? (i := 801) (by decide +kernel)⟩
theorem lw_p13 : lw_okq (⟨"RamStationModel", "fill", "(I)V"⟩, 19) := ⟨⟨by decide +kernel, by decide +kernel⟩, List.mem_of_getElem? (i := 706) (by decide +kernel), List.mem_of_getElem? (i := 808) (by decide +kernel), List.mem_of_getElem? (i := 809) (by decide +kernel)⟩
theorem lw_p14 : lw_okq (⟨"RamStationModel", "inflowNow", "(I)I"⟩, 19) := ⟨⟨by decide +kernel, by decide +kernel⟩, List.mem_of_getElem? (i := 706) (by decide +kernel), List.mem_of_getElem? (i := 816) (by decide +kernel), List.mem_of_getElem? (i := 817) (by decide +kernel)⟩
theorem lw_p15 : lw_okq (⟨"RamStationModel", "runRefused", "(II)I"⟩, 19) := ⟨⟨by decide +kernel, by decide +kernel⟩, List.mem_of_getElem? (i := 706) (by decide +kernel), List.mem_of_getElem? (i := 824) (by decide +kernel), List.mem_of_getElem? (i := 825) (by decide +kernel)⟩
def lw_privs_1 : List (MethodName × Nat) := [(⟨"RamStation", "keepState", "()V"⟩, 11), (⟨"RamStation", "tickStation", "()I"⟩, 11), (⟨"RamStation", "noteIncidents", "(I)V"⟩, 11), (⟨"RamStation", "perform", "(I)I"⟩, 11), (⟨"RamStation", "valveKindOf", "(I)I"⟩, 11), (⟨"RamStation", "tickTrial", "()V"⟩, 11), (⟨"RamStation", "trialDelivery", "(I)I"⟩, 11), (⟨"RamStation", "ticksFromSlamLikeLast", "()I"⟩, 11), (⟨"RamStation", "deliveryFromRest", "(LRamStation$Pump;III)I"⟩, 11), (⟨"RamStationModel", "record", "()V"⟩, 19), (⟨"RamStationModel", "valveRefused", "(III)I"⟩, 19), (⟨"RamStationModel", "isPump", "(I)Z"⟩, 19), (⟨"RamStationModel", "valveNow", "(III)I"⟩, 19), (⟨"RamStationModel", "fill", "(I)V"⟩, 19), (⟨"RamStationModel", "inflowNow", "(I)I"⟩, 19), (⟨"RamStationModel", "runRefused", "(II)I"⟩, 19)]
theorem lw_r1 : ∀ q ∈ lw_privs_1, lw_okq q := List.forall_mem_cons.mpr ⟨lw_p0, List.forall_mem_cons.mpr ⟨lw_p1, List.forall_mem_cons.mpr ⟨lw_p2, List.forall_mem_cons.mpr ⟨lw_p3, List.forall_mem_cons.mpr ⟨lw_p4, List.forall_mem_cons.mpr ⟨lw_p5, List.forall_mem_cons.mpr ⟨lw_p6, List.forall_mem_cons.mpr ⟨lw_p7, List.forall_mem_cons.mpr ⟨lw_p8, List.forall_mem_cons.mpr ⟨lw_p9, List.forall_mem_cons.mpr ⟨lw_p10, List.forall_mem_cons.mpr ⟨lw_p11, List.forall_mem_cons.mpr ⟨lw_p12, List.forall_mem_cons.mpr ⟨lw_p13, List.forall_mem_cons.mpr ⟨lw_p14, List.forall_mem_cons.mpr ⟨lw_p15, fun _ h => absurd h List.not_mem_nil⟩⟩⟩⟩⟩⟩⟩⟩⟩⟩⟩⟩⟩⟩⟩⟩
theorem lw_p16 : lw_okq (⟨"RamStationModel", "startNow", "(I)I"⟩, 19) := ⟨⟨by decide +kernel, by decide +kernel⟩, List.mem_of_getElem? (i := 706) (by decide +kernel), List.mem_of_getElem? (i := 828) (by decide +kernel), List.mem_of_getElem? (i := 829) (by decide +kernel)⟩
theorem lw_p17 : lw_okq (⟨"RamStationModel", "running", "()I"⟩, 19) := ⟨⟨by decide +kernel, by decide +kernel⟩, List.mem_of_getElem? (i := 706) (by decide +kernel), List.mem_of_getElem? (i := 832) (by decide +kernel), List.mem_of_getElem? (i := 833) (by decide +kernel)⟩
theorem lw_p18 : lw_okq (⟨"RamStationModel", "stopNow", "(I)I"⟩, 19) := ⟨⟨by decide +kernel, by decide +kernel⟩, List.mem_of_getElem? (i := 706) (by decide +kernel), List.mem_of_getElem? (i := 840) (by decide +kernel), List.mem_of_getElem? (i := 841) (by decide +kernel)⟩
theorem lw_p19 : lw_okq (⟨"RamStationModel", "open", "(I)V"⟩, 19) := ⟨⟨by decide +kernel, by decide +kernel⟩, List.mem_of_getElem? (i := 706) (by decide +kernel), List.mem_of_getElem? (i := 844) (by decide +kernel), List.mem_of_getElem? (i := 845) (by decide +kernel)⟩
theorem lw_p20 : lw_okq (⟨"RamStationModel", "tankRefused", "(I)I"⟩, 19) := ⟨⟨by decide +kernel, by decide +kernel⟩, List.mem_of_getElem? (i := 706) (by decide +kernel), List.mem_of_getElem? (i := 852) (by decide +kernel), List.mem_of_getElem? (i := 853) (by decide +kernel)⟩
theorem lw_p21 : lw_okq (⟨"RamStationModel", "tankNow", "(I)I"⟩, 19) := ⟨⟨by decide +kernel, by decide +kernel⟩, List.mem_of_getElem? (i := 706) (by decide +kernel), List.mem_of_getElem? (i := 856) (by decide +kernel), List.mem_of_getElem? (i := 857) (by decide +kernel)⟩
theorem lw_p22 : lw_okq (⟨"RamStationModel", "passRefused", "(I)I"⟩, 19) := ⟨⟨by decide +kernel, by decide +kernel⟩, List.mem_of_getElem? (i := 706) (by decide +kernel), List.mem_of_getElem? (i := 864) (by decide +kernel), List.mem_of_getElem? (i := 865) (by decide +kernel)⟩
theorem lw_p23 : lw_okq (⟨"RamStationModel", "passNow", "(I)I"⟩, 19) := ⟨⟨by decide +kernel, by decide +kernel⟩, List.mem_of_getElem? (i := 706) (by decide +kernel), List.mem_of_getElem? (i := 868) (by decide +kernel), List.mem_of_getElem? (i := 869) (by decide +kernel)⟩
theorem lw_p24 : lw_okq (⟨"RamStationModel", "tick", "(II)V"⟩, 19) := ⟨⟨by decide +kernel, by decide +kernel⟩, List.mem_of_getElem? (i := 706) (by decide +kernel), List.mem_of_getElem? (i := 872) (by decide +kernel), List.mem_of_getElem? (i := 873) (by decide +kernel)⟩
theorem lw_p25 : lw_okq (⟨"RamStationModel", "incident", "(II)V"⟩, 19) := ⟨⟨by decide +kernel, by decide +kernel⟩, List.mem_of_getElem? (i := 706) (by decide +kernel), List.mem_of_getElem? (i := 876) (by decide +kernel), List.mem_of_getElem? (i := 877) (by decide +kernel)⟩
theorem lw_p26 : lw_okq (⟨"RamStationModel", "gain", "(III)V"⟩, 19) := ⟨⟨by decide +kernel, by decide +kernel⟩, List.mem_of_getElem? (i := 706) (by decide +kernel), List.mem_of_getElem? (i := 880) (by decide +kernel), List.mem_of_getElem? (i := 881) (by decide +kernel)⟩
theorem lw_p27 : lw_okq (⟨"RamStationModel", "slamsBy", "(I)Z"⟩, 19) := ⟨⟨by decide +kernel, by decide +kernel⟩, List.mem_of_getElem? (i := 706) (by decide +kernel), List.mem_of_getElem? (i := 885) (by decide +kernel), List.mem_of_getElem? (i := 886) (by decide +kernel)⟩
theorem lw_p28 : lw_okq (⟨"RamStationModel", "slam", "(II)V"⟩, 19) := ⟨⟨by decide +kernel, by decide +kernel⟩, List.mem_of_getElem? (i := 706) (by decide +kernel), List.mem_of_getElem? (i := 889) (by decide +kernel), List.mem_of_getElem? (i := 890) (by decide +kernel)⟩
theorem lw_p29 : lw_okq (⟨"RamStationModel", "addInterval", "(I)V"⟩, 19) := ⟨⟨by decide +kernel, by decide +kernel⟩, List.mem_of_getElem? (i := 706) (by decide +kernel), List.mem_of_getElem? (i := 893) (by decide +kernel), List.mem_of_getElem? (i := 894) (by decide +kernel)⟩
theorem lw_p30 : lw_okq (⟨"RamStationModel", "leastSpace", "(I)I"⟩, 19) := ⟨⟨by decide +kernel, by decide +kernel⟩, List.mem_of_getElem? (i := 706) (by decide +kernel), List.mem_of_getElem? (i := 897) (by decide +kernel), List.mem_of_getElem? (i := 898) (by decide +kernel)⟩
theorem lw_p31 : lw_okq (⟨"RamStationModel", "push", "(III)V"⟩, 19) := ⟨⟨by decide +kernel, by decide +kernel⟩, List.mem_of_getElem? (i := 706) (by decide +kernel), List.mem_of_getElem? (i := 901) (by decide +kernel), List.mem_of_getElem? (i := 902) (by decide +kernel)⟩
def lw_privs_2 : List (MethodName × Nat) := [(⟨"RamStationModel", "startNow", "(I)I"⟩, 19), (⟨"RamStationModel", "running", "()I"⟩, 19), (⟨"RamStationModel", "stopNow", "(I)I"⟩, 19), (⟨"RamStationModel", "open", "(I)V"⟩, 19), (⟨"RamStationModel", "tankRefused", "(I)I"⟩, 19), (⟨"RamStationModel", "tankNow", "(I)I"⟩, 19), (⟨"RamStationModel", "passRefused", "(I)I"⟩, 19), (⟨"RamStationModel", "passNow", "(I)I"⟩, 19), (⟨"RamStationModel", "tick", "(II)V"⟩, 19), (⟨"RamStationModel", "incident", "(II)V"⟩, 19), (⟨"RamStationModel", "gain", "(III)V"⟩, 19), (⟨"RamStationModel", "slamsBy", "(I)Z"⟩, 19), (⟨"RamStationModel", "slam", "(II)V"⟩, 19), (⟨"RamStationModel", "addInterval", "(I)V"⟩, 19), (⟨"RamStationModel", "leastSpace", "(I)I"⟩, 19), (⟨"RamStationModel", "push", "(III)V"⟩, 19)]
theorem lw_r2 : ∀ q ∈ lw_privs_2, lw_okq q := List.forall_mem_cons.mpr ⟨lw_p16, List.forall_mem_cons.mpr ⟨lw_p17, List.forall_mem_cons.mpr ⟨lw_p18, List.forall_mem_cons.mpr ⟨lw_p19, List.forall_mem_cons.mpr ⟨lw_p20, List.forall_mem_cons.mpr ⟨lw_p21, List.forall_mem_cons.mpr ⟨lw_p22, List.forall_mem_cons.mpr ⟨lw_p23, List.forall_mem_cons.mpr ⟨lw_p24, List.forall_mem_cons.mpr ⟨lw_p25, List.forall_mem_cons.mpr ⟨lw_p26, List.forall_mem_cons.mpr ⟨lw_p27, List.forall_mem_cons.mpr ⟨lw_p28, List.forall_mem_cons.mpr ⟨lw_p29, List.forall_mem_cons.mpr ⟨lw_p30, List.forall_mem_cons.mpr ⟨lw_p31, fun _ h => absurd h List.not_mem_nil⟩⟩⟩⟩⟩⟩⟩⟩⟩⟩⟩⟩⟩⟩⟩⟩
theorem lw_p32 : lw_okq (⟨"RamStationModel", "head", "(I)I"⟩, 19) := ⟨⟨by decide +kernel, by decide +kernel⟩, List.mem_of_getElem? (i := 706) (by decide +kernel), List.mem_of_getElem? (i := 905) (by decide +kernel), List.mem_of_getElem? (i := 906) (by decide +kernel)⟩
theorem lw_p33 : lw_okq (⟨"RamStationModel", "deliver", "(II)V"⟩, 19) := ⟨⟨by decide +kernel, by decide +kernel⟩, List.mem_of_getElem? (i := 706) (by decide +kernel), List.mem_of_getElem? (i := 909) (by decide +kernel), List.mem_of_getElem? (i := 910) (by decide +kernel)⟩
theorem lw_p34 : lw_okq (⟨"RamStationModel", "addTrace", "(I)V"⟩, 19) := ⟨⟨by decide +kernel, by decide +kernel⟩, List.mem_of_getElem? (i := 706) (by decide +kernel), List.mem_of_getElem? (i := 913) (by decide +kernel), List.mem_of_getElem? (i := 914) (by decide +kernel)⟩
theorem lw_p35 : lw_okq (⟨"RamStationModel", "check", "()I"⟩, 19) := ⟨⟨by decide +kernel, by decide +kernel⟩, List.mem_of_getElem? (i := 706) (by decide +kernel), List.mem_of_getElem? (i := 929) (by decide +kernel), List.mem_of_getElem? (i := 930) (by decide +kernel)⟩
theorem lw_p36 : lw_okq (⟨"RamStationModel", "readCommand", "()V"⟩, 19) := ⟨⟨by decide +kernel, by decide +kernel⟩, List.mem_of_getElem? (i := 706) (by decide +kernel), List.mem_of_getElem? (i := 933) (by decide +kernel), List.mem_of_getElem? (i := 934) (by decide +kernel)⟩
theorem lw_p37 : lw_okq (⟨"RamStationModel", "digit", "()I"⟩, 19) := ⟨⟨by decide +kernel, by decide +kernel⟩, List.mem_of_getElem? (i := 706) (by decide +kernel), List.mem_of_getElem? (i := 937) (by decide +kernel), List.mem_of_getElem? (i := 938) (by decide +kernel)⟩
theorem lw_p38 : lw_okq (⟨"RamStationModel", "isDigit", "()Z"⟩, 19) := ⟨⟨by decide +kernel, by decide +kernel⟩, List.mem_of_getElem? (i := 706) (by decide +kernel), List.mem_of_getElem? (i := 941) (by decide +kernel), List.mem_of_getElem? (i := 942) (by decide +kernel)⟩
theorem lw_p39 : lw_okq (⟨"RamStationModel", "sign", "(I)V"⟩, 19) := ⟨⟨by decide +kernel, by decide +kernel⟩, List.mem_of_getElem? (i := 706) (by decide +kernel), List.mem_of_getElem? (i := 945) (by decide +kernel), List.mem_of_getElem? (i := 946) (by decide +kernel)⟩
theorem lw_p40 : lw_okq (⟨"RamStationModel", "number", "()I"⟩, 19) := ⟨⟨by decide +kernel, by decide +kernel⟩, List.mem_of_getElem? (i := 706) (by decide +kernel), List.mem_of_getElem? (i := 949) (by decide +kernel), List.mem_of_getElem? (i := 950) (by decide +kernel)⟩
theorem lw_p41 : lw_okq (⟨"RamStationModel", "perform", "()I"⟩, 19) := ⟨⟨by decide +kernel, by decide +kernel⟩, List.mem_of_getElem? (i := 706) (by decide +kernel), List.mem_of_getElem? (i := 957) (by decide +kernel), List.mem_of_getElem? (i := 958) (by decide +kernel)⟩
theorem lw_p42 : lw_okq (⟨"RamStationModel", "place", "(I)I"⟩, 19) := ⟨⟨by decide +kernel, by decide +kernel⟩, List.mem_of_getElem? (i := 706) (by decide +kernel), List.mem_of_getElem? (i := 989) (by decide +kernel), List.mem_of_getElem? (i := 990) (by decide +kernel)⟩
theorem lw_p43 : lw_okq (⟨"RamStationModel", "told", "(II)I"⟩, 19) := ⟨⟨by decide +kernel, by decide +kernel⟩, List.mem_of_getElem? (i := 706) (by decide +kernel), List.mem_of_getElem? (i := 1009) (by decide +kernel), List.mem_of_getElem? (i := 1010) (by decide +kernel)⟩
theorem lw_p44 : lw_okq (⟨"RamStationModel", "kept", "(IIII)I"⟩, 19) := ⟨⟨by decide +kernel, by decide +kernel⟩, List.mem_of_getElem? (i := 706) (by decide +kernel), List.mem_of_getElem? (i := 1061) (by decide +kernel), List.mem_of_getElem? (i := 1062) (by decide +kernel)⟩
theorem lw_p45 : lw_okq (⟨"RamStationModel", "efficiencyOf", "(I)I"⟩, 19) := ⟨⟨by decide +kernel, by decide +kernel⟩, List.mem_of_getElem? (i := 706) (by decide +kernel), List.mem_of_getElem? (i := 1073) (by decide +kernel), List.mem_of_getElem? (i := 1074) (by decide +kernel)⟩
theorem lw_p46 : lw_okq (⟨"RamStationModel", "beginTrial", "(IZ)V"⟩, 19) := ⟨⟨by decide +kernel, by decide +kernel⟩, List.mem_of_getElem? (i := 706) (by decide +kernel), List.mem_of_getElem? (i := 1086) (by decide +kernel), List.mem_of_getElem? (i := 1087) (by decide +kernel)⟩
theorem lw_p47 : lw_okq (⟨"RamStationModel", "trialRefused", "(III)I"⟩, 19) := ⟨⟨by decide +kernel, by decide +kernel⟩, List.mem_of_getElem? (i := 706) (by decide +kernel), List.mem_of_getElem? (i := 1094) (by decide +kernel), List.mem_of_getElem? (i := 1095) (by decide +kernel)⟩
def lw_privs_3 : List (MethodName × Nat) := [(⟨"RamStationModel", "head", "(I)I"⟩, 19), (⟨"RamStationModel", "deliver", "(II)V"⟩, 19), (⟨"RamStationModel", "addTrace", "(I)V"⟩, 19), (⟨"RamStationModel", "check", "()I"⟩, 19), (⟨"RamStationModel", "readCommand", "()V"⟩, 19), (⟨"RamStationModel", "digit", "()I"⟩, 19), (⟨"RamStationModel", "isDigit", "()Z"⟩, 19), (⟨"RamStationModel", "sign", "(I)V"⟩, 19), (⟨"RamStationModel", "number", "()I"⟩, 19), (⟨"RamStationModel", "perform", "()I"⟩, 19), (⟨"RamStationModel", "place", "(I)I"⟩, 19), (⟨"RamStationModel", "told", "(II)I"⟩, 19), (⟨"RamStationModel", "kept", "(IIII)I"⟩, 19), (⟨"RamStationModel", "efficiencyOf", "(I)I"⟩, 19), (⟨"RamStationModel", "beginTrial", "(IZ)V"⟩, 19), (⟨"RamStationModel", "trialRefused", "(III)I"⟩, 19)]
theorem lw_r3 : ∀ q ∈ lw_privs_3, lw_okq q := List.forall_mem_cons.mpr ⟨lw_p32, List.forall_mem_cons.mpr ⟨lw_p33, List.forall_mem_cons.mpr ⟨lw_p34, List.forall_mem_cons.mpr ⟨lw_p35, List.forall_mem_cons.mpr ⟨lw_p36, List.forall_mem_cons.mpr ⟨lw_p37, List.forall_mem_cons.mpr ⟨lw_p38, List.forall_mem_cons.mpr ⟨lw_p39, List.forall_mem_cons.mpr ⟨lw_p40, List.forall_mem_cons.mpr ⟨lw_p41, List.forall_mem_cons.mpr ⟨lw_p42, List.forall_mem_cons.mpr ⟨lw_p43, List.forall_mem_cons.mpr ⟨lw_p44, List.forall_mem_cons.mpr ⟨lw_p45, List.forall_mem_cons.mpr ⟨lw_p46, List.forall_mem_cons.mpr ⟨lw_p47, fun _ h => absurd h List.not_mem_nil⟩⟩⟩⟩⟩⟩⟩⟩⟩⟩⟩⟩⟩⟩⟩⟩
theorem lw_p48 : lw_okq (⟨"RamStationModel", "goOn", "(I)V"⟩, 19) := ⟨⟨by decide +kernel, by decide +kernel⟩, List.mem_of_getElem? (i := 706) (by decide +kernel), List.mem_of_getElem? (i := 1098) (by decide +kernel), List.mem_of_getElem? (i := 1099) (by decide +kernel)⟩
theorem lw_p49 : lw_okq (⟨"RamStationModel", "best", "(IIII)I"⟩, 19) := ⟨⟨by decide +kernel, by decide +kernel⟩, List.mem_of_getElem? (i := 706) (by decide +kernel), List.mem_of_getElem? (i := 1114) (by decide +kernel), List.mem_of_getElem? (i := 1115) (by decide +kernel)⟩
def lw_privs_4 : List (MethodName × Nat) := [(⟨"RamStationModel", "goOn", "(I)V"⟩, 19), (⟨"RamStationModel", "best", "(IIII)I"⟩, 19)]
theorem lw_r4 : ∀ q ∈ lw_privs_4, lw_okq q := List.forall_mem_cons.mpr ⟨lw_p48, List.forall_mem_cons.mpr ⟨lw_p49, fun _ h => absurd h List.not_mem_nil⟩⟩
def lw_privs : List (MethodName × Nat) := lw_privs_1 ++ (lw_privs_2 ++ (lw_privs_3 ++ (lw_privs_4)))
def lw_tbl : List Cond := k2_sels lw_privs ++ tables_1
theorem lw_privs_ok : ∀ q ∈ lw_privs, lw_okq q := by
  show ∀ q ∈ lw_privs_1 ++ (lw_privs_2 ++ (lw_privs_3 ++ (lw_privs_4))), lw_okq q
  exact List.forall_mem_append.mpr ⟨lw_r1, List.forall_mem_append.mpr ⟨lw_r2, List.forall_mem_append.mpr ⟨lw_r3, lw_r4⟩⟩⟩

/-- the words of the tables that stay good at any call -/
def TB : List Cond := lw_tbl.filter goodWord
theorem tb_of {w : Cond} (h : w ∈ lw_tbl) (g : goodWord w = true) : w ∈ TB := List.mem_filter.mpr ⟨h, g⟩
theorem tb_good {w : Cond} (h : w ∈ TB) : (w.onTables && w.keeps) = true ∨ ∃ ty, w = .arrayClass ty := good_of_word (List.mem_filter.mp h).2
/-- the words of a method: its code first, then all -/
def wsy (y : MethodName) (c : ByteArray) (n : Nat) (r : Option FieldType) : List Cond := .code y c n r :: TB
theorem wsy_good {y z : MethodName} {c d : ByteArray} {n k : Nat} {r q : Option FieldType} (h : Cond.code z d k q ∈ TB) : GoodIn (wsy y c n r) (wsy z d k q) := by
  intro w hw
  rcases List.mem_cons.mp hw with rfl | hw
  · exact ⟨List.mem_cons_of_mem _ h, tb_good h⟩
  · exact ⟨List.mem_cons_of_mem _ hw, tb_good hw⟩
theorem tb_goodIn {z : MethodName} {d : ByteArray} {k : Nat} {q : Option FieldType} (h : Cond.code z d k q ∈ TB) : GoodIn TB (wsy z d k q) := by
  intro w hw
  rcases List.mem_cons.mp hw with rfl | hw
  · exact ⟨h, tb_good h⟩
  · exact ⟨hw, tb_good hw⟩
end
section
abbrev RX0 : String := "RamStation$Chamber"
def TX0 : u_T := fun k => match k with
  | 0 => ("RamStation$Chamber", "volume", "I", false)
  | 1 => ("RamStation$Chamber", "leastSpace", "I", false)
  | 2 => ("RamStation$Chamber", "snifter", "Z", false)
  | 3 => ("RamStation$Chamber", "water", "I", false)
  | _ => ("RamStation$Chamber", "air", "I", false)
def tyX0 : Nat → FieldType := fun k => match k with
  | 0 => .int
  | 1 => .int
  | 2 => .boolean
  | 3 => .int
  | _ => .int
theorem nmX0 : ∀ a, a < 5 → ∀ b, b < 5 → a ≠ b → (TX0 a).2.1 ≠ (TX0 b).2.1 := by decide +kernel
theorem tyX0_ok : ∀ k, k < 5 → parseFieldDescriptor (TX0 k).2.2.1 = some (tyX0 k) := by decide +kernel
abbrev RX1 : String := "RamStation$CommandText"
def TX1 : u_T := fun k => match k with
  | 0 => ("RamStation$CommandText", "signs", "[C", true)
  | _ => ("RamStation$CommandText", "length", "I", false)
def tyX1 : Nat → FieldType := fun k => match k with
  | 0 => .array .char
  | _ => .int
theorem nmX1 : ∀ a, a < 2 → ∀ b, b < 2 → a ≠ b → (TX1 a).2.1 ≠ (TX1 b).2.1 := by decide +kernel
theorem tyX1_ok : ∀ k, k < 2 → parseFieldDescriptor (TX1 k).2.2.1 = some (tyX1 k) := by decide +kernel
abbrev RX2 : String := "RamStation$Counters"
def TX2 : u_T := fun k => match k with
  | 0 => ("RamStation$Counters", "beats", "I", false)
  | 1 => ("RamStation$Counters", "wasted", "I", false)
  | 2 => ("RamStation$Counters", "relieved", "I", false)
  | 3 => ("RamStation$Counters", "lifted", "I", false)
  | 4 => ("RamStation$Counters", "overflowed", "I", false)
  | _ => ("RamStation$Counters", "starved", "I", false)
def tyX2 : Nat → FieldType := fun k => match k with
  | 0 => .int
  | 1 => .int
  | 2 => .int
  | 3 => .int
  | 4 => .int
  | _ => .int
theorem nmX2 : ∀ a, a < 6 → ∀ b, b < 6 → a ≠ b → (TX2 a).2.1 ≠ (TX2 b).2.1 := by decide +kernel
theorem tyX2_ok : ∀ k, k < 6 → parseFieldDescriptor (TX2 k).2.2.1 = some (tyX2 k) := by decide +kernel
abbrev RX3 : String := "RamStation$IncidentLog"
def TX3 : u_T := fun k => match k with
  | 0 => ("RamStation$IncidentLog", "total", "I", false)
  | 1 => ("RamStation$IncidentLog", "kinds", "LRamStation$Ring;", true)
  | 2 => ("RamStation$IncidentLog", "pumpNumbers", "LRamStation$Ring;", true)
  | _ => ("RamStation$IncidentLog", "times", "LRamStation$Ring;", true)
def tyX3 : Nat → FieldType := fun k => match k with
  | 0 => .int
  | 1 => .object "RamStation$Ring"
  | 2 => .object "RamStation$Ring"
  | _ => .object "RamStation$Ring"
theorem nmX3 : ∀ a, a < 4 → ∀ b, b < 4 → a ≠ b → (TX3 a).2.1 ≠ (TX3 b).2.1 := by decide +kernel
theorem tyX3_ok : ∀ k, k < 4 → parseFieldDescriptor (TX3 k).2.2.1 = some (tyX3 k) := by decide +kernel
abbrev RX4 : String := "RamStation$Pump"
def TX4 : u_T := fun k => match k with
  | 0 => ("RamStation$Pump", "supplyHead", "I", false)
  | 1 => ("RamStation$Pump", "driveLength", "I", false)
  | 2 => ("RamStation$Pump", "area", "I", false)
  | 3 => ("RamStation$Pump", "friction", "I", false)
  | 4 => ("RamStation$Pump", "lift", "I", false)
  | 5 => ("RamStation$Pump", "running", "Z", false)
  | 6 => ("RamStation$Pump", "speed", "I", false)
  | 7 => ("RamStation$Pump", "closed", "Z", false)
  | 8 => ("RamStation$Pump", "openTicks", "I", false)
  | 9 => ("RamStation$Pump", "valveKind", "I", false)
  | 10 => ("RamStation$Pump", "setting", "I", false)
  | 11 => ("RamStation$Pump", "tank", "I", false)
  | 12 => ("RamStation$Pump", "intervalStart", "I", false)
  | 13 => ("RamStation$Pump", "chamber", "LRamStation$Chamber;", true)
  | 14 => ("RamStation$Pump", "counters", "LRamStation$Counters;", true)
  | 15 => ("RamStation$Pump", "intervals", "LRamStation$Ring;", true)
  | _ => ("RamStation$Pump", "trace", "LRamStation$Ring;", true)
def tyX4 : Nat → FieldType := fun k => match k with
  | 0 => .int
  | 1 => .int
  | 2 => .int
  | 3 => .int
  | 4 => .int
  | 5 => .boolean
  | 6 => .int
  | 7 => .boolean
  | 8 => .int
  | 9 => .int
  | 10 => .int
  | 11 => .int
  | 12 => .int
  | 13 => .object "RamStation$Chamber"
  | 14 => .object "RamStation$Counters"
  | 15 => .object "RamStation$Ring"
  | _ => .object "RamStation$Ring"
theorem nmX4 : ∀ a, a < 17 → ∀ b, b < 17 → a ≠ b → (TX4 a).2.1 ≠ (TX4 b).2.1 := by decide +kernel
theorem tyX4_ok : ∀ k, k < 17 → parseFieldDescriptor (TX4 k).2.2.1 = some (tyX4 k) := by decide +kernel
abbrev RX5 : String := "RamStation$Report"
def TX5 : u_T := fun k => match k with
  | 0 => ("RamStation$Report", "drawn", "I", false)
  | 1 => ("RamStation$Report", "delivered", "I", false)
  | 2 => ("RamStation$Report", "slammed", "Z", false)
  | 3 => ("RamStation$Report", "firstIncident", "I", false)
  | _ => ("RamStation$Report", "overflowing", "Z", false)
def tyX5 : Nat → FieldType := fun k => match k with
  | 0 => .int
  | 1 => .int
  | 2 => .boolean
  | 3 => .int
  | _ => .boolean
theorem nmX5 : ∀ a, a < 5 → ∀ b, b < 5 → a ≠ b → (TX5 a).2.1 ≠ (TX5 b).2.1 := by decide +kernel
theorem tyX5_ok : ∀ k, k < 5 → parseFieldDescriptor (TX5 k).2.2.1 = some (tyX5 k) := by decide +kernel
abbrev RX6 : String := "RamStation$Ring"
def TX6 : u_T := fun k => match k with
  | 0 => ("RamStation$Ring", "places", "[I", true)
  | 1 => ("RamStation$Ring", "count", "I", false)
  | _ => ("RamStation$Ring", "next", "I", false)
def tyX6 : Nat → FieldType := fun k => match k with
  | 0 => .array .int
  | 1 => .int
  | _ => .int
theorem nmX6 : ∀ a, a < 3 → ∀ b, b < 3 → a ≠ b → (TX6 a).2.1 ≠ (TX6 b).2.1 := by decide +kernel
theorem tyX6_ok : ∀ k, k < 3 → parseFieldDescriptor (TX6 k).2.2.1 = some (tyX6 k) := by decide +kernel
abbrev RX7 : String := "RamStation$State"
def TX7 : u_T := fun k => match k with
  | 0 => ("RamStation$State", "time", "I", false)
  | 1 => ("RamStation$State", "basin", "I", false)
  | 2 => ("RamStation$State", "spilled", "I", false)
  | 3 => ("RamStation$State", "inflow", "I", false)
  | 4 => ("RamStation$State", "pumpCount", "I", false)
  | _ => ("RamStation$State", "pumps", "[LRamStation$Pump;", true)
def tyX7 : Nat → FieldType := fun k => match k with
  | 0 => .int
  | 1 => .int
  | 2 => .int
  | 3 => .int
  | 4 => .int
  | _ => .array (.object "RamStation$Pump")
theorem nmX7 : ∀ a, a < 6 → ∀ b, b < 6 → a ≠ b → (TX7 a).2.1 ≠ (TX7 b).2.1 := by decide +kernel
theorem tyX7_ok : ∀ k, k < 6 → parseFieldDescriptor (TX7 k).2.2.1 = some (tyX7 k) := by decide +kernel
abbrev RX8 : String := "RamStation"
def TX8 : u_T := fun k => match k with
  | 0 => ("RamStation", "state", "LRamStation$State;", true)
  | 1 => ("RamStation", "recorded", "[LRamStation$State;", true)
  | 2 => ("RamStation", "recordedCount", "I", false)
  | 3 => ("RamStation", "recordNext", "I", false)
  | 4 => ("RamStation", "executing", "Z", false)
  | 5 => ("RamStation", "lastFailure", "I", false)
  | 6 => ("RamStation", "text", "LRamStation$CommandText;", true)
  | 7 => ("RamStation", "log", "LRamStation$IncidentLog;", true)
  | 8 => ("RamStation", "report", "LRamStation$Report;", true)
  | 9 => ("RamStation", "trial", "LRamStation$Pump;", true)
  | _ => ("RamStation", "slamMarks", "[J", true)
def tyX8 : Nat → FieldType := fun k => match k with
  | 0 => .object "RamStation$State"
  | 1 => .array (.object "RamStation$State")
  | 2 => .int
  | 3 => .int
  | 4 => .boolean
  | 5 => .int
  | 6 => .object "RamStation$CommandText"
  | 7 => .object "RamStation$IncidentLog"
  | 8 => .object "RamStation$Report"
  | 9 => .object "RamStation$Pump"
  | _ => .array .long
theorem nmX8 : ∀ a, a < 11 → ∀ b, b < 11 → a ≠ b → (TX8 a).2.1 ≠ (TX8 b).2.1 := by decide +kernel
theorem tyX8_ok : ∀ k, k < 11 → parseFieldDescriptor (TX8 k).2.2.1 = some (tyX8 k) := by decide +kernel
abbrev RX9 : String := "RamStationModel"
def TX9 : u_T := fun k => match k with
  | 0 => ("RamStationModel", "now", "[I", true)
  | 1 => ("RamStationModel", "past", "[I", true)
  | 2 => ("RamStationModel", "recorded", "I", false)
  | 3 => ("RamStationModel", "kinds", "[I", true)
  | 4 => ("RamStationModel", "pumpsOf", "[I", true)
  | 5 => ("RamStationModel", "times", "[I", true)
  | 6 => ("RamStationModel", "happened", "I", false)
  | 7 => ("RamStationModel", "slammed", "Z", false)
  | 8 => ("RamStationModel", "drawn", "I", false)
  | 9 => ("RamStationModel", "delivered", "I", false)
  | 10 => ("RamStationModel", "text", "[I", true)
  | 11 => ("RamStationModel", "texted", "I", false)
  | 12 => ("RamStationModel", "failed", "I", false)
  | 13 => ("RamStationModel", "at0", "I", false)
  | 14 => ("RamStationModel", "wrong", "Z", false)
  | 15 => ("RamStationModel", "letter", "I", false)
  | 16 => ("RamStationModel", "which", "I", false)
  | 17 => ("RamStationModel", "value", "I", false)
  | _ => ("RamStationModel", "slams", "[I", true)
def tyX9 : Nat → FieldType := fun k => match k with
  | 0 => .array .int
  | 1 => .array .int
  | 2 => .int
  | 3 => .array .int
  | 4 => .array .int
  | 5 => .array .int
  | 6 => .int
  | 7 => .boolean
  | 8 => .int
  | 9 => .int
  | 10 => .array .int
  | 11 => .int
  | 12 => .int
  | 13 => .int
  | 14 => .boolean
  | 15 => .int
  | 16 => .int
  | 17 => .int
  | _ => .array .int
theorem nmX9 : ∀ a, a < 19 → ∀ b, b < 19 → a ≠ b → (TX9 a).2.1 ≠ (TX9 b).2.1 := by decide +kernel
theorem tyX9_ok : ∀ k, k < 19 → parseFieldDescriptor (TX9 k).2.2.1 = some (tyX9 k) := by decide +kernel
abbrev cX0_init : ByteArray := prog_2_method_1_code
abbrev yX0_init : MethodName := ⟨"RamStation$Chamber", "<init>", "()V"⟩
abbrev cX0_renew : ByteArray := prog_2_method_2_code
abbrev yX0_renew : MethodName := ⟨"RamStation$Chamber", "renew", "(IZ)V"⟩
abbrev cX0_copyFrom : ByteArray := prog_2_method_3_code
abbrev yX0_copyFrom : MethodName := ⟨"RamStation$Chamber", "copyFrom", "(LRamStation$Chamber;)V"⟩
abbrev cX0_head : ByteArray := prog_2_method_4_code
abbrev yX0_head : MethodName := ⟨"RamStation$Chamber", "head", "()I"⟩
abbrev cX0_take : ByteArray := prog_2_method_5_code
abbrev yX0_take : MethodName := ⟨"RamStation$Chamber", "take", "(I)I"⟩
abbrev cX0_changeAir : ByteArray := prog_2_method_6_code
abbrev yX0_changeAir : MethodName := ⟨"RamStation$Chamber", "changeAir", "()V"⟩
abbrev cX1_init : ByteArray := prog_3_method_1_code
abbrev yX1_init : MethodName := ⟨"RamStation$CommandText", "<init>", "()V"⟩
abbrev cX1_signAt : ByteArray := prog_3_method_2_code
abbrev yX1_signAt : MethodName := ⟨"RamStation$CommandText", "signAt", "(I)C"⟩
abbrev cX1_commandStartsAt : ByteArray := prog_3_method_3_code
abbrev yX1_commandStartsAt : MethodName := ⟨"RamStation$CommandText", "commandStartsAt", "(I)Z"⟩
abbrev cX1_numberAt : ByteArray := prog_3_method_4_code
abbrev yX1_numberAt : MethodName := ⟨"RamStation$CommandText", "numberAt", "(I)I"⟩
abbrev cX1_firstError : ByteArray := prog_3_method_5_code
abbrev yX1_firstError : MethodName := ⟨"RamStation$CommandText", "firstError", "()I"⟩
abbrev cX1_isDigit : ByteArray := prog_3_method_6_code
abbrev yX1_isDigit : MethodName := ⟨"RamStation$CommandText", "isDigit", "(C)Z"⟩
abbrev cX1_mayEnd : ByteArray := prog_3_method_7_code
abbrev yX1_mayEnd : MethodName := ⟨"RamStation$CommandText", "mayEnd", "(I)Z"⟩
abbrev cX1_placeAfter : ByteArray := prog_3_method_8_code
abbrev yX1_placeAfter : MethodName := ⟨"RamStation$CommandText", "placeAfter", "(IC)I"⟩
abbrev cX1_placeAfterLetter : ByteArray := prog_3_method_9_code
abbrev yX1_placeAfterLetter : MethodName := ⟨"RamStation$CommandText", "placeAfterLetter", "(C)I"⟩
abbrev cX1_placeAfterDigit : ByteArray := prog_3_method_10_code
abbrev yX1_placeAfterDigit : MethodName := ⟨"RamStation$CommandText", "placeAfterDigit", "(I)I"⟩
abbrev cX2_init : ByteArray := prog_4_method_1_code
abbrev yX2_init : MethodName := ⟨"RamStation$Counters", "<init>", "()V"⟩
abbrev cX2_copyFrom : ByteArray := prog_4_method_2_code
abbrev yX2_copyFrom : MethodName := ⟨"RamStation$Counters", "copyFrom", "(LRamStation$Counters;)V"⟩
abbrev cX3_init : ByteArray := prog_5_method_1_code
abbrev yX3_init : MethodName := ⟨"RamStation$IncidentLog", "<init>", "()V"⟩
abbrev cX3_add : ByteArray := prog_5_method_2_code
abbrev yX3_add : MethodName := ⟨"RamStation$IncidentLog", "add", "(III)V"⟩
abbrev cX4_init : ByteArray := prog_6_method_1_code
abbrev yX4_init : MethodName := ⟨"RamStation$Pump", "<init>", "(IIIII)V"⟩
abbrev cX4_copyFrom : ByteArray := prog_6_method_2_code
abbrev yX4_copyFrom : MethodName := ⟨"RamStation$Pump", "copyFrom", "(LRamStation$Pump;)V"⟩
abbrev cX4_rest : ByteArray := prog_6_method_3_code
abbrev yX4_rest : MethodName := ⟨"RamStation$Pump", "rest", "()V"⟩
abbrev cX4_tick : ByteArray := prog_6_method_4_code
abbrev yX4_tick : MethodName := ⟨"RamStation$Pump", "tick", "(IILRamStation$Report;)V"⟩
abbrev cX4_gainSpeed : ByteArray := prog_6_method_5_code
abbrev yX4_gainSpeed : MethodName := ⟨"RamStation$Pump", "gainSpeed", "(I)V"⟩
abbrev cX4_speedFrom : ByteArray := prog_6_method_6_code
abbrev yX4_speedFrom : MethodName := ⟨"RamStation$Pump", "speedFrom", "(I)I"⟩
abbrev cX4_slamRuleHolds : ByteArray := prog_6_method_7_code
abbrev yX4_slamRuleHolds : MethodName := ⟨"RamStation$Pump", "slamRuleHolds", "()Z"⟩
abbrev cX4_slam : ByteArray := prog_6_method_8_code
abbrev yX4_slam : MethodName := ⟨"RamStation$Pump", "slam", "(ILRamStation$Report;)V"⟩
abbrev cX4_pushIntoChamber : ByteArray := prog_6_method_9_code
abbrev yX4_pushIntoChamber : MethodName := ⟨"RamStation$Pump", "pushIntoChamber", "(ILRamStation$Report;)V"⟩
abbrev cX4_deliver : ByteArray := prog_6_method_10_code
abbrev yX4_deliver : MethodName := ⟨"RamStation$Pump", "deliver", "(LRamStation$Report;)V"⟩
abbrev cX4_thousandths : ByteArray := prog_6_method_11_code
abbrev yX4_thousandths : MethodName := ⟨"RamStation$Pump", "thousandths", "()I"⟩
abbrev cX4_slamMark : ByteArray := prog_6_method_12_code
abbrev yX4_slamMark : MethodName := ⟨"RamStation$Pump", "slamMark", "()J"⟩
abbrev cX5_init : ByteArray := prog_7_method_1_code
abbrev yX5_init : MethodName := ⟨"RamStation$Report", "<init>", "()V"⟩
abbrev cX5_clear : ByteArray := prog_7_method_2_code
abbrev yX5_clear : MethodName := ⟨"RamStation$Report", "clear", "()V"⟩
abbrev cX6_init : ByteArray := prog_8_method_1_code
abbrev yX6_init : MethodName := ⟨"RamStation$Ring", "<init>", "(I)V"⟩
abbrev cX6_add : ByteArray := prog_8_method_2_code
abbrev yX6_add : MethodName := ⟨"RamStation$Ring", "add", "(I)V"⟩
abbrev cX6_latest : ByteArray := prog_8_method_3_code
abbrev yX6_latest : MethodName := ⟨"RamStation$Ring", "latest", "(I)I"⟩
abbrev cX6_copyFrom : ByteArray := prog_8_method_4_code
abbrev yX6_copyFrom : MethodName := ⟨"RamStation$Ring", "copyFrom", "(LRamStation$Ring;)V"⟩
abbrev cX7_init : ByteArray := prog_9_method_1_code
abbrev yX7_init : MethodName := ⟨"RamStation$State", "<init>", "()V"⟩
abbrev cX7_pumpAt : ByteArray := prog_9_method_2_code
abbrev yX7_pumpAt : MethodName := ⟨"RamStation$State", "pumpAt", "(I)LRamStation$Pump;"⟩
abbrev cX7_runningPumps : ByteArray := prog_9_method_3_code
abbrev yX7_runningPumps : MethodName := ⟨"RamStation$State", "runningPumps", "()I"⟩
abbrev cX7_fillBasin : ByteArray := prog_9_method_4_code
abbrev yX7_fillBasin : MethodName := ⟨"RamStation$State", "fillBasin", "(I)V"⟩
abbrev cX7_copyFrom : ByteArray := prog_9_method_5_code
abbrev yX7_copyFrom : MethodName := ⟨"RamStation$State", "copyFrom", "(LRamStation$State;)V"⟩
abbrev cX8_init : ByteArray := prog_1_method_1_code
abbrev yX8_init : MethodName := ⟨"RamStation", "<init>", "()V"⟩
abbrev cX8_addPump : ByteArray := prog_1_method_2_code
abbrev yX8_addPump : MethodName := ⟨"RamStation", "addPump", "(IIIII)I"⟩
abbrev cX8_setValve : ByteArray := prog_1_method_3_code
abbrev yX8_setValve : MethodName := ⟨"RamStation", "setValve", "(III)I"⟩
abbrev cX8_setChamber : ByteArray := prog_1_method_4_code
abbrev yX8_setChamber : MethodName := ⟨"RamStation", "setChamber", "(IIZ)I"⟩
abbrev cX8_setInflow : ByteArray := prog_1_method_5_code
abbrev yX8_setInflow : MethodName := ⟨"RamStation", "setInflow", "(I)I"⟩
abbrev cX8_start : ByteArray := prog_1_method_6_code
abbrev yX8_start : MethodName := ⟨"RamStation", "start", "(I)I"⟩
abbrev cX8_stop : ByteArray := prog_1_method_7_code
abbrev yX8_stop : MethodName := ⟨"RamStation", "stop", "(I)I"⟩
abbrev cX8_emptyTank : ByteArray := prog_1_method_8_code
abbrev yX8_emptyTank : MethodName := ⟨"RamStation", "emptyTank", "(I)I"⟩
abbrev cX8_pass : ByteArray := prog_1_method_9_code
abbrev yX8_pass : MethodName := ⟨"RamStation", "pass", "(I)I"⟩
abbrev cX8_undo : ByteArray := prog_1_method_10_code
abbrev yX8_undo : MethodName := ⟨"RamStation", "undo", "()I"⟩
abbrev cX8_type : ByteArray := prog_1_method_11_code
abbrev yX8_type : MethodName := ⟨"RamStation", "type", "(I)I"⟩
abbrev cX8_clearText : ByteArray := prog_1_method_12_code
abbrev yX8_clearText : MethodName := ⟨"RamStation", "clearText", "()I"⟩
abbrev cX8_syntaxError : ByteArray := prog_1_method_13_code
abbrev yX8_syntaxError : MethodName := ⟨"RamStation", "syntaxError", "()I"⟩
abbrev cX8_execute : ByteArray := prog_1_method_14_code
abbrev yX8_execute : MethodName := ⟨"RamStation", "execute", "()I"⟩
abbrev cX8_failure : ByteArray := prog_1_method_15_code
abbrev yX8_failure : MethodName := ⟨"RamStation", "failure", "()I"⟩
abbrev cX8_time : ByteArray := prog_1_method_16_code
abbrev yX8_time : MethodName := ⟨"RamStation", "time", "()I"⟩
abbrev cX8_basin : ByteArray := prog_1_method_17_code
abbrev yX8_basin : MethodName := ⟨"RamStation", "basin", "()I"⟩
abbrev cX8_spilled : ByteArray := prog_1_method_18_code
abbrev yX8_spilled : MethodName := ⟨"RamStation", "spilled", "()I"⟩
abbrev cX8_pumps : ByteArray := prog_1_method_19_code
abbrev yX8_pumps : MethodName := ⟨"RamStation", "pumps", "()I"⟩
abbrev cX8_incidents : ByteArray := prog_1_method_20_code
abbrev yX8_incidents : MethodName := ⟨"RamStation", "incidents", "()I"⟩
abbrev cX8_incidentKind : ByteArray := prog_1_method_21_code
abbrev yX8_incidentKind : MethodName := ⟨"RamStation", "incidentKind", "(I)I"⟩
abbrev cX8_incidentPump : ByteArray := prog_1_method_22_code
abbrev yX8_incidentPump : MethodName := ⟨"RamStation", "incidentPump", "(I)I"⟩
abbrev cX8_incidentTime : ByteArray := prog_1_method_23_code
abbrev yX8_incidentTime : MethodName := ⟨"RamStation", "incidentTime", "(I)I"⟩
abbrev cX8_phase : ByteArray := prog_1_method_24_code
abbrev yX8_phase : MethodName := ⟨"RamStation", "phase", "(I)I"⟩
abbrev cX8_speed : ByteArray := prog_1_method_25_code
abbrev yX8_speed : MethodName := ⟨"RamStation", "speed", "(I)I"⟩
abbrev cX8_openTicks : ByteArray := prog_1_method_26_code
abbrev yX8_openTicks : MethodName := ⟨"RamStation", "openTicks", "(I)I"⟩
abbrev cX8_chamberWater : ByteArray := prog_1_method_27_code
abbrev yX8_chamberWater : MethodName := ⟨"RamStation", "chamberWater", "(I)I"⟩
abbrev cX8_air : ByteArray := prog_1_method_28_code
abbrev yX8_air : MethodName := ⟨"RamStation", "air", "(I)I"⟩
abbrev cX8_chamberHead : ByteArray := prog_1_method_29_code
abbrev yX8_chamberHead : MethodName := ⟨"RamStation", "chamberHead", "(I)I"⟩
abbrev cX8_beats : ByteArray := prog_1_method_30_code
abbrev yX8_beats : MethodName := ⟨"RamStation", "beats", "(I)I"⟩
abbrev cX8_wasted : ByteArray := prog_1_method_31_code
abbrev yX8_wasted : MethodName := ⟨"RamStation", "wasted", "(I)I"⟩
abbrev cX8_relieved : ByteArray := prog_1_method_32_code
abbrev yX8_relieved : MethodName := ⟨"RamStation", "relieved", "(I)I"⟩
abbrev cX8_lifted : ByteArray := prog_1_method_33_code
abbrev yX8_lifted : MethodName := ⟨"RamStation", "lifted", "(I)I"⟩
abbrev cX8_overflowed : ByteArray := prog_1_method_34_code
abbrev yX8_overflowed : MethodName := ⟨"RamStation", "overflowed", "(I)I"⟩
abbrev cX8_starved : ByteArray := prog_1_method_35_code
abbrev yX8_starved : MethodName := ⟨"RamStation", "starved", "(I)I"⟩
abbrev cX8_tank : ByteArray := prog_1_method_36_code
abbrev yX8_tank : MethodName := ⟨"RamStation", "tank", "(I)I"⟩
abbrev cX8_interval : ByteArray := prog_1_method_37_code
abbrev yX8_interval : MethodName := ⟨"RamStation", "interval", "(II)I"⟩
abbrev cX8_trace : ByteArray := prog_1_method_38_code
abbrev yX8_trace : MethodName := ⟨"RamStation", "trace", "(II)I"⟩
abbrev cX8_efficiency : ByteArray := prog_1_method_39_code
abbrev yX8_efficiency : MethodName := ⟨"RamStation", "efficiency", "(I)I"⟩
abbrev cX8_bestPump : ByteArray := prog_1_method_40_code
abbrev yX8_bestPump : MethodName := ⟨"RamStation", "bestPump", "()I"⟩
abbrev cX8_ticksToSlam : ByteArray := prog_1_method_41_code
abbrev yX8_ticksToSlam : MethodName := ⟨"RamStation", "ticksToSlam", "(I)I"⟩
abbrev cX8_deliveredIn : ByteArray := prog_1_method_42_code
abbrev yX8_deliveredIn : MethodName := ⟨"RamStation", "deliveredIn", "(II)I"⟩
abbrev cX8_drawnIn : ByteArray := prog_1_method_43_code
abbrev yX8_drawnIn : MethodName := ⟨"RamStation", "drawnIn", "(II)I"⟩
abbrev cX8_period : ByteArray := prog_1_method_44_code
abbrev yX8_period : MethodName := ⟨"RamStation", "period", "(I)I"⟩
abbrev cX8_bestLength : ByteArray := prog_1_method_45_code
abbrev yX8_bestLength : MethodName := ⟨"RamStation", "bestLength", "(II)I"⟩
abbrev cX8_bestSetting : ByteArray := prog_1_method_46_code
abbrev yX8_bestSetting : MethodName := ⟨"RamStation", "bestSetting", "(II)I"⟩
abbrev cX8_outside : ByteArray := prog_1_method_47_code
abbrev yX8_outside : MethodName := ⟨"RamStation", "outside", "(III)Z"⟩
abbrev cX8_keepState : ByteArray := prog_1_method_48_code
abbrev yX8_keepState : MethodName := ⟨"RamStation", "keepState", "()V"⟩
abbrev cX8_tickStation : ByteArray := prog_1_method_49_code
abbrev yX8_tickStation : MethodName := ⟨"RamStation", "tickStation", "()I"⟩
abbrev cX8_noteIncidents : ByteArray := prog_1_method_50_code
abbrev yX8_noteIncidents : MethodName := ⟨"RamStation", "noteIncidents", "(I)V"⟩
abbrev cX8_perform : ByteArray := prog_1_method_51_code
abbrev yX8_perform : MethodName := ⟨"RamStation", "perform", "(I)I"⟩
abbrev cX8_valveKindOf : ByteArray := prog_1_method_52_code
abbrev yX8_valveKindOf : MethodName := ⟨"RamStation", "valveKindOf", "(I)I"⟩
abbrev cX8_tickTrial : ByteArray := prog_1_method_53_code
abbrev yX8_tickTrial : MethodName := ⟨"RamStation", "tickTrial", "()V"⟩
abbrev cX8_trialDelivery : ByteArray := prog_1_method_54_code
abbrev yX8_trialDelivery : MethodName := ⟨"RamStation", "trialDelivery", "(I)I"⟩
abbrev cX8_deliveryFromRest : ByteArray := prog_1_method_55_code
abbrev yX8_deliveryFromRest : MethodName := ⟨"RamStation", "deliveryFromRest", "(LRamStation$Pump;III)I"⟩
abbrev cX8_ticksFromSlamLikeLast : ByteArray := prog_1_method_56_code
abbrev yX8_ticksFromSlamLikeLast : MethodName := ⟨"RamStation", "ticksFromSlamLikeLast", "()I"⟩
abbrev cX9_init : ByteArray := prog_11_method_1_code
abbrev yX9_init : MethodName := ⟨"RamStationModel", "<init>", "()V"⟩
abbrev cX9_in : ByteArray := prog_11_method_3_code
abbrev yX9_in : MethodName := ⟨"RamStationModel", "in", "(III)Z"⟩
abbrev cX9_isPump : ByteArray := prog_11_method_4_code
abbrev yX9_isPump : MethodName := ⟨"RamStationModel", "isPump", "(I)Z"⟩
abbrev cX9_at : ByteArray := prog_11_method_5_code
abbrev yX9_at : MethodName := ⟨"RamStationModel", "at", "(I)I"⟩
abbrev cX9_running : ByteArray := prog_11_method_6_code
abbrev yX9_running : MethodName := ⟨"RamStationModel", "running", "()I"⟩
abbrev cX9_record : ByteArray := prog_11_method_7_code
abbrev yX9_record : MethodName := ⟨"RamStationModel", "record", "()V"⟩
abbrev cX9_undo : ByteArray := prog_11_method_8_code
abbrev yX9_undo : MethodName := ⟨"RamStationModel", "undo", "()I"⟩
abbrev cX9_incident : ByteArray := prog_11_method_9_code
abbrev yX9_incident : MethodName := ⟨"RamStationModel", "incident", "(II)V"⟩
abbrev cX9_place : ByteArray := prog_11_method_10_code
abbrev yX9_place : MethodName := ⟨"RamStationModel", "place", "(I)I"⟩
abbrev cX9_leastSpace : ByteArray := prog_11_method_11_code
abbrev yX9_leastSpace : MethodName := ⟨"RamStationModel", "leastSpace", "(I)I"⟩
abbrev cX9_head : ByteArray := prog_11_method_12_code
abbrev yX9_head : MethodName := ⟨"RamStationModel", "head", "(I)I"⟩
abbrev cX9_slamsBy : ByteArray := prog_11_method_13_code
abbrev yX9_slamsBy : MethodName := ⟨"RamStationModel", "slamsBy", "(I)Z"⟩
abbrev cX9_open : ByteArray := prog_11_method_14_code
abbrev yX9_open : MethodName := ⟨"RamStationModel", "open", "(I)V"⟩
abbrev cX9_addInterval : ByteArray := prog_11_method_15_code
abbrev yX9_addInterval : MethodName := ⟨"RamStationModel", "addInterval", "(I)V"⟩
abbrev cX9_addTrace : ByteArray := prog_11_method_16_code
abbrev yX9_addTrace : MethodName := ⟨"RamStationModel", "addTrace", "(I)V"⟩
abbrev cX9_slam : ByteArray := prog_11_method_17_code
abbrev yX9_slam : MethodName := ⟨"RamStationModel", "slam", "(II)V"⟩
abbrev cX9_gain : ByteArray := prog_11_method_18_code
abbrev yX9_gain : MethodName := ⟨"RamStationModel", "gain", "(III)V"⟩
abbrev cX9_push : ByteArray := prog_11_method_19_code
abbrev yX9_push : MethodName := ⟨"RamStationModel", "push", "(III)V"⟩
abbrev cX9_deliver : ByteArray := prog_11_method_20_code
abbrev yX9_deliver : MethodName := ⟨"RamStationModel", "deliver", "(II)V"⟩
abbrev cX9_tick : ByteArray := prog_11_method_21_code
abbrev yX9_tick : MethodName := ⟨"RamStationModel", "tick", "(II)V"⟩
abbrev cX9_fill : ByteArray := prog_11_method_22_code
abbrev yX9_fill : MethodName := ⟨"RamStationModel", "fill", "(I)V"⟩
abbrev cX9_passNow : ByteArray := prog_11_method_23_code
abbrev yX9_passNow : MethodName := ⟨"RamStationModel", "passNow", "(I)I"⟩
abbrev cX9_addPump : ByteArray := prog_11_method_24_code
abbrev yX9_addPump : MethodName := ⟨"RamStationModel", "addPump", "(IIIII)I"⟩
abbrev cX9_valveRefused : ByteArray := prog_11_method_25_code
abbrev yX9_valveRefused : MethodName := ⟨"RamStationModel", "valveRefused", "(III)I"⟩
abbrev cX9_valveNow : ByteArray := prog_11_method_26_code
abbrev yX9_valveNow : MethodName := ⟨"RamStationModel", "valveNow", "(III)I"⟩
abbrev cX9_setValve : ByteArray := prog_11_method_27_code
abbrev yX9_setValve : MethodName := ⟨"RamStationModel", "setValve", "(III)I"⟩
abbrev cX9_setChamber : ByteArray := prog_11_method_28_code
abbrev yX9_setChamber : MethodName := ⟨"RamStationModel", "setChamber", "(IIZ)I"⟩
abbrev cX9_inflowNow : ByteArray := prog_11_method_29_code
abbrev yX9_inflowNow : MethodName := ⟨"RamStationModel", "inflowNow", "(I)I"⟩
abbrev cX9_setInflow : ByteArray := prog_11_method_30_code
abbrev yX9_setInflow : MethodName := ⟨"RamStationModel", "setInflow", "(I)I"⟩
abbrev cX9_runRefused : ByteArray := prog_11_method_31_code
abbrev yX9_runRefused : MethodName := ⟨"RamStationModel", "runRefused", "(II)I"⟩
abbrev cX9_startNow : ByteArray := prog_11_method_32_code
abbrev yX9_startNow : MethodName := ⟨"RamStationModel", "startNow", "(I)I"⟩
abbrev cX9_start : ByteArray := prog_11_method_33_code
abbrev yX9_start : MethodName := ⟨"RamStationModel", "start", "(I)I"⟩
abbrev cX9_stopNow : ByteArray := prog_11_method_34_code
abbrev yX9_stopNow : MethodName := ⟨"RamStationModel", "stopNow", "(I)I"⟩
abbrev cX9_stop : ByteArray := prog_11_method_35_code
abbrev yX9_stop : MethodName := ⟨"RamStationModel", "stop", "(I)I"⟩
abbrev cX9_tankRefused : ByteArray := prog_11_method_36_code
abbrev yX9_tankRefused : MethodName := ⟨"RamStationModel", "tankRefused", "(I)I"⟩
abbrev cX9_tankNow : ByteArray := prog_11_method_37_code
abbrev yX9_tankNow : MethodName := ⟨"RamStationModel", "tankNow", "(I)I"⟩
abbrev cX9_emptyTank : ByteArray := prog_11_method_38_code
abbrev yX9_emptyTank : MethodName := ⟨"RamStationModel", "emptyTank", "(I)I"⟩
abbrev cX9_passRefused : ByteArray := prog_11_method_39_code
abbrev yX9_passRefused : MethodName := ⟨"RamStationModel", "passRefused", "(I)I"⟩
abbrev cX9_pass : ByteArray := prog_11_method_40_code
abbrev yX9_pass : MethodName := ⟨"RamStationModel", "pass", "(I)I"⟩
abbrev cX9_type : ByteArray := prog_11_method_41_code
abbrev yX9_type : MethodName := ⟨"RamStationModel", "type", "(I)I"⟩
abbrev cX9_clearText : ByteArray := prog_11_method_42_code
abbrev yX9_clearText : MethodName := ⟨"RamStationModel", "clearText", "()I"⟩
abbrev cX9_isDigit : ByteArray := prog_11_method_43_code
abbrev yX9_isDigit : MethodName := ⟨"RamStationModel", "isDigit", "()Z"⟩
abbrev cX9_digit : ByteArray := prog_11_method_44_code
abbrev yX9_digit : MethodName := ⟨"RamStationModel", "digit", "()I"⟩
abbrev cX9_number : ByteArray := prog_11_method_45_code
abbrev yX9_number : MethodName := ⟨"RamStationModel", "number", "()I"⟩
abbrev cX9_sign : ByteArray := prog_11_method_46_code
abbrev yX9_sign : MethodName := ⟨"RamStationModel", "sign", "(I)V"⟩
abbrev cX9_readCommand : ByteArray := prog_11_method_47_code
abbrev yX9_readCommand : MethodName := ⟨"RamStationModel", "readCommand", "()V"⟩
abbrev cX9_check : ByteArray := prog_11_method_48_code
abbrev yX9_check : MethodName := ⟨"RamStationModel", "check", "()I"⟩
abbrev cX9_syntaxError : ByteArray := prog_11_method_49_code
abbrev yX9_syntaxError : MethodName := ⟨"RamStationModel", "syntaxError", "()I"⟩
abbrev cX9_perform : ByteArray := prog_11_method_50_code
abbrev yX9_perform : MethodName := ⟨"RamStationModel", "perform", "()I"⟩
abbrev cX9_execute : ByteArray := prog_11_method_51_code
abbrev yX9_execute : MethodName := ⟨"RamStationModel", "execute", "()I"⟩
abbrev cX9_failure : ByteArray := prog_11_method_52_code
abbrev yX9_failure : MethodName := ⟨"RamStationModel", "failure", "()I"⟩
abbrev cX9_time : ByteArray := prog_11_method_53_code
abbrev yX9_time : MethodName := ⟨"RamStationModel", "time", "()I"⟩
abbrev cX9_basin : ByteArray := prog_11_method_54_code
abbrev yX9_basin : MethodName := ⟨"RamStationModel", "basin", "()I"⟩
abbrev cX9_spilled : ByteArray := prog_11_method_55_code
abbrev yX9_spilled : MethodName := ⟨"RamStationModel", "spilled", "()I"⟩
abbrev cX9_pumps : ByteArray := prog_11_method_56_code
abbrev yX9_pumps : MethodName := ⟨"RamStationModel", "pumps", "()I"⟩
abbrev cX9_incidents : ByteArray := prog_11_method_57_code
abbrev yX9_incidents : MethodName := ⟨"RamStationModel", "incidents", "()I"⟩
abbrev cX9_incidentKind : ByteArray := prog_11_method_58_code
abbrev yX9_incidentKind : MethodName := ⟨"RamStationModel", "incidentKind", "(I)I"⟩
abbrev cX9_incidentPump : ByteArray := prog_11_method_59_code
abbrev yX9_incidentPump : MethodName := ⟨"RamStationModel", "incidentPump", "(I)I"⟩
abbrev cX9_incidentTime : ByteArray := prog_11_method_60_code
abbrev yX9_incidentTime : MethodName := ⟨"RamStationModel", "incidentTime", "(I)I"⟩
abbrev cX9_told : ByteArray := prog_11_method_61_code
abbrev yX9_told : MethodName := ⟨"RamStationModel", "told", "(II)I"⟩
abbrev cX9_phase : ByteArray := prog_11_method_62_code
abbrev yX9_phase : MethodName := ⟨"RamStationModel", "phase", "(I)I"⟩
abbrev cX9_speed : ByteArray := prog_11_method_63_code
abbrev yX9_speed : MethodName := ⟨"RamStationModel", "speed", "(I)I"⟩
abbrev cX9_openTicks : ByteArray := prog_11_method_64_code
abbrev yX9_openTicks : MethodName := ⟨"RamStationModel", "openTicks", "(I)I"⟩
abbrev cX9_chamberWater : ByteArray := prog_11_method_65_code
abbrev yX9_chamberWater : MethodName := ⟨"RamStationModel", "chamberWater", "(I)I"⟩
abbrev cX9_air : ByteArray := prog_11_method_66_code
abbrev yX9_air : MethodName := ⟨"RamStationModel", "air", "(I)I"⟩
abbrev cX9_chamberHead : ByteArray := prog_11_method_67_code
abbrev yX9_chamberHead : MethodName := ⟨"RamStationModel", "chamberHead", "(I)I"⟩
abbrev cX9_beats : ByteArray := prog_11_method_68_code
abbrev yX9_beats : MethodName := ⟨"RamStationModel", "beats", "(I)I"⟩
abbrev cX9_wasted : ByteArray := prog_11_method_69_code
abbrev yX9_wasted : MethodName := ⟨"RamStationModel", "wasted", "(I)I"⟩
abbrev cX9_relieved : ByteArray := prog_11_method_70_code
abbrev yX9_relieved : MethodName := ⟨"RamStationModel", "relieved", "(I)I"⟩
abbrev cX9_lifted : ByteArray := prog_11_method_71_code
abbrev yX9_lifted : MethodName := ⟨"RamStationModel", "lifted", "(I)I"⟩
abbrev cX9_overflowed : ByteArray := prog_11_method_72_code
abbrev yX9_overflowed : MethodName := ⟨"RamStationModel", "overflowed", "(I)I"⟩
abbrev cX9_starved : ByteArray := prog_11_method_73_code
abbrev yX9_starved : MethodName := ⟨"RamStationModel", "starved", "(I)I"⟩
abbrev cX9_tank : ByteArray := prog_11_method_74_code
abbrev yX9_tank : MethodName := ⟨"RamStationModel", "tank", "(I)I"⟩
abbrev cX9_kept : ByteArray := prog_11_method_75_code
abbrev yX9_kept : MethodName := ⟨"RamStationModel", "kept", "(IIII)I"⟩
abbrev cX9_interval : ByteArray := prog_11_method_76_code
abbrev yX9_interval : MethodName := ⟨"RamStationModel", "interval", "(II)I"⟩
abbrev cX9_trace : ByteArray := prog_11_method_77_code
abbrev yX9_trace : MethodName := ⟨"RamStationModel", "trace", "(II)I"⟩
abbrev cX9_efficiencyOf : ByteArray := prog_11_method_78_code
abbrev yX9_efficiencyOf : MethodName := ⟨"RamStationModel", "efficiencyOf", "(I)I"⟩
abbrev cX9_efficiency : ByteArray := prog_11_method_79_code
abbrev yX9_efficiency : MethodName := ⟨"RamStationModel", "efficiency", "(I)I"⟩
abbrev cX9_bestPump : ByteArray := prog_11_method_80_code
abbrev yX9_bestPump : MethodName := ⟨"RamStationModel", "bestPump", "()I"⟩
abbrev cX9_beginTrial : ByteArray := prog_11_method_81_code
abbrev yX9_beginTrial : MethodName := ⟨"RamStationModel", "beginTrial", "(IZ)V"⟩
abbrev cX9_goOn : ByteArray := prog_11_method_82_code
abbrev yX9_goOn : MethodName := ⟨"RamStationModel", "goOn", "(I)V"⟩
abbrev cX9_ticksToSlam : ByteArray := prog_11_method_83_code
abbrev yX9_ticksToSlam : MethodName := ⟨"RamStationModel", "ticksToSlam", "(I)I"⟩
abbrev cX9_trialRefused : ByteArray := prog_11_method_84_code
abbrev yX9_trialRefused : MethodName := ⟨"RamStationModel", "trialRefused", "(III)I"⟩
abbrev cX9_deliveredIn : ByteArray := prog_11_method_85_code
abbrev yX9_deliveredIn : MethodName := ⟨"RamStationModel", "deliveredIn", "(II)I"⟩
abbrev cX9_drawnIn : ByteArray := prog_11_method_86_code
abbrev yX9_drawnIn : MethodName := ⟨"RamStationModel", "drawnIn", "(II)I"⟩
abbrev cX9_period : ByteArray := prog_11_method_87_code
abbrev yX9_period : MethodName := ⟨"RamStationModel", "period", "(I)I"⟩
abbrev cX9_best : ByteArray := prog_11_method_88_code
abbrev yX9_best : MethodName := ⟨"RamStationModel", "best", "(IIII)I"⟩
abbrev cX9_bestLength : ByteArray := prog_11_method_89_code
abbrev yX9_bestLength : MethodName := ⟨"RamStationModel", "bestLength", "(II)I"⟩
abbrev cX9_bestSetting : ByteArray := prog_11_method_90_code
abbrev yX9_bestSetting : MethodName := ⟨"RamStationModel", "bestSetting", "(II)I"⟩
abbrev RL : String := "RamStationLaw"
end
section
theorem w_50 : (Cond.initialized "RamStationLaw") ∈ TB := tb_of (List.mem_of_getElem? (i := 50) (by decide +kernel)) (by decide +kernel)
theorem w_51 : (Cond.initialized "RamStation") ∈ TB := tb_of (List.mem_of_getElem? (i := 51) (by decide +kernel)) (by decide +kernel)
theorem w_52 : (Cond.initialized "RamStation$State") ∈ TB := tb_of (List.mem_of_getElem? (i := 52) (by decide +kernel)) (by decide +kernel)
theorem w_53 : (Cond.initialized "RamStation$Pump") ∈ TB := tb_of (List.mem_of_getElem? (i := 53) (by decide +kernel)) (by decide +kernel)
theorem w_54 : (Cond.initialized "RamStation$Chamber") ∈ TB := tb_of (List.mem_of_getElem? (i := 54) (by decide +kernel)) (by decide +kernel)
theorem w_55 : (Cond.initialized "RamStation$Counters") ∈ TB := tb_of (List.mem_of_getElem? (i := 55) (by decide +kernel)) (by decide +kernel)
theorem w_56 : (Cond.initialized "RamStation$Ring") ∈ TB := tb_of (List.mem_of_getElem? (i := 56) (by decide +kernel)) (by decide +kernel)
theorem w_57 : (Cond.initialized "java/lang/Math") ∈ TB := tb_of (List.mem_of_getElem? (i := 57) (by decide +kernel)) (by decide +kernel)
theorem w_58 : (Cond.initialized "RamStation$CommandText") ∈ TB := tb_of (List.mem_of_getElem? (i := 58) (by decide +kernel)) (by decide +kernel)
theorem w_59 : (Cond.initialized "RamStation$IncidentLog") ∈ TB := tb_of (List.mem_of_getElem? (i := 59) (by decide +kernel)) (by decide +kernel)
theorem w_60 : (Cond.initialized "RamStation$Report") ∈ TB := tb_of (List.mem_of_getElem? (i := 60) (by decide +kernel)) (by decide +kernel)
theorem w_61 : (Cond.initialized "RamStationModel") ∈ TB := tb_of (List.mem_of_getElem? (i := 61) (by decide +kernel)) (by decide +kernel)
theorem w_62 : (Cond.initialized "java/lang/System") ∈ TB := tb_of (List.mem_of_getElem? (i := 62) (by decide +kernel)) (by decide +kernel)
theorem w_63 : (Cond.classLink "RamStationLaw" (7 : Nat) "RamStation") ∈ TB := tb_of (List.mem_of_getElem? (i := 63) (by decide +kernel)) (by decide +kernel)
theorem w_64 : (Cond.instantiable "RamStation" (11 : Nat)) ∈ TB := tb_of (List.mem_of_getElem? (i := 64) (by decide +kernel)) (by decide +kernel)
theorem w_65 : (Cond.methodLink "RamStationLaw" (9 : Nat) yX8_init) ∈ TB := tb_of (List.mem_of_getElem? (i := 65) (by decide +kernel)) (by decide +kernel)
theorem w_66 : (Cond.instanceMethod yX8_init) ∈ TB := tb_of (List.mem_of_getElem? (i := 66) (by decide +kernel)) (by decide +kernel)
theorem w_67 : (Cond.code yX8_init cX8_init (2 : Nat) (Option.none : Option FieldType)) ∈ TB := tb_of (List.mem_of_getElem? (i := 67) (by decide +kernel)) (by decide +kernel)
theorem w_68 : (Cond.methodLink "RamStation" (1 : Nat) ({ cls := "java/lang/Object", name := "<init>", desc := "()V" } : Jvm.MethodName)) ∈ TB := tb_of (List.mem_of_getElem? (i := 68) (by decide +kernel)) (by decide +kernel)
theorem w_69 : (Cond.instanceMethod ({ cls := "java/lang/Object", name := "<init>", desc := "()V" } : Jvm.MethodName)) ∈ TB := tb_of (List.mem_of_getElem? (i := 69) (by decide +kernel)) (by decide +kernel)
theorem w_70 : (Cond.code ({ cls := "java/lang/Object", name := "<init>", desc := "()V" } : Jvm.MethodName) object_method_1_code (1 : Nat) (Option.none : Option FieldType)) ∈ TB := tb_of (List.mem_of_getElem? (i := 70) (by decide +kernel)) (by decide +kernel)
theorem w_71 : (Cond.classLink "RamStation" (7 : Nat) "RamStation$State") ∈ TB := tb_of (List.mem_of_getElem? (i := 71) (by decide +kernel)) (by decide +kernel)
theorem w_72 : (Cond.instantiable "RamStation$State" (6 : Nat)) ∈ TB := tb_of (List.mem_of_getElem? (i := 72) (by decide +kernel)) (by decide +kernel)
theorem w_73 : (Cond.methodLink "RamStation" (9 : Nat) yX7_init) ∈ TB := tb_of (List.mem_of_getElem? (i := 73) (by decide +kernel)) (by decide +kernel)
theorem w_74 : (Cond.instanceMethod yX7_init) ∈ TB := tb_of (List.mem_of_getElem? (i := 74) (by decide +kernel)) (by decide +kernel)
theorem w_75 : (Cond.code yX7_init cX7_init (2 : Nat) (Option.none : Option FieldType)) ∈ TB := tb_of (List.mem_of_getElem? (i := 75) (by decide +kernel)) (by decide +kernel)
theorem w_76 : (Cond.methodLink "RamStation$State" (3 : Nat) ({ cls := "java/lang/Object", name := "<init>", desc := "()V" } : Jvm.MethodName)) ∈ TB := tb_of (List.mem_of_getElem? (i := 76) (by decide +kernel)) (by decide +kernel)
theorem w_77 : (Cond.classLink "RamStation$State" (18 : Nat) "RamStation$Pump") ∈ TB := tb_of (List.mem_of_getElem? (i := 77) (by decide +kernel)) (by decide +kernel)
theorem w_78 : (Cond.arrayOver (FieldType.object "RamStation$Pump")) ∈ lw_tbl := List.mem_of_getElem? (i := 78) (by decide +kernel)
theorem w_79 : (Cond.instantiable "RamStation$Pump" (17 : Nat)) ∈ TB := tb_of (List.mem_of_getElem? (i := 79) (by decide +kernel)) (by decide +kernel)
theorem w_80 : (Cond.methodLink "RamStation$State" (24 : Nat) yX4_init) ∈ TB := tb_of (List.mem_of_getElem? (i := 80) (by decide +kernel)) (by decide +kernel)
theorem w_81 : (Cond.instanceMethod yX4_init) ∈ TB := tb_of (List.mem_of_getElem? (i := 81) (by decide +kernel)) (by decide +kernel)
theorem w_82 : (Cond.code yX4_init cX4_init (6 : Nat) (Option.none : Option FieldType)) ∈ TB := tb_of (List.mem_of_getElem? (i := 82) (by decide +kernel)) (by decide +kernel)
theorem w_83 : (Cond.methodLink "RamStation$Pump" (3 : Nat) ({ cls := "java/lang/Object", name := "<init>", desc := "()V" } : Jvm.MethodName)) ∈ TB := tb_of (List.mem_of_getElem? (i := 83) (by decide +kernel)) (by decide +kernel)
theorem w_84 : (Cond.classLink "RamStation$Pump" (15 : Nat) "RamStation$Chamber") ∈ TB := tb_of (List.mem_of_getElem? (i := 84) (by decide +kernel)) (by decide +kernel)
theorem w_85 : (Cond.instantiable "RamStation$Chamber" (5 : Nat)) ∈ TB := tb_of (List.mem_of_getElem? (i := 85) (by decide +kernel)) (by decide +kernel)
theorem w_86 : (Cond.methodLinkNest "RamStation$Pump" (17 : Nat) yX0_init "RamStation") ∈ lw_tbl := List.mem_of_getElem? (i := 86) (by decide +kernel)
theorem w_87 : (Cond.instanceMethod yX0_init) ∈ TB := tb_of (List.mem_of_getElem? (i := 87) (by decide +kernel)) (by decide +kernel)
theorem w_88 : (Cond.code yX0_init cX0_init (1 : Nat) (Option.none : Option FieldType)) ∈ TB := tb_of (List.mem_of_getElem? (i := 88) (by decide +kernel)) (by decide +kernel)
theorem w_89 : (Cond.methodLink "RamStation$Chamber" (1 : Nat) ({ cls := "java/lang/Object", name := "<init>", desc := "()V" } : Jvm.MethodName)) ∈ TB := tb_of (List.mem_of_getElem? (i := 89) (by decide +kernel)) (by decide +kernel)
theorem w_90 : (Cond.fieldLink "RamStation$Chamber" (7 : Nat) "RamStation$Chamber" "volume" "I") ∈ TB := tb_of (List.mem_of_getElem? (i := 90) (by decide +kernel)) (by decide +kernel)
theorem w_91 : (Cond.fieldLink "RamStation$Chamber" (13 : Nat) "RamStation$Chamber" "leastSpace" "I") ∈ TB := tb_of (List.mem_of_getElem? (i := 91) (by decide +kernel)) (by decide +kernel)
theorem w_92 : (Cond.fieldLink "RamStation$Pump" (155 : Nat) "RamStation$Chamber" "leastSpace" "I") ∈ TB := tb_of (List.mem_of_getElem? (i := 92) (by decide +kernel)) (by decide +kernel)
theorem w_93 : (Cond.fieldLink "RamStation$Chamber" (19 : Nat) "RamStation$Chamber" "snifter" "Z") ∈ TB := tb_of (List.mem_of_getElem? (i := 93) (by decide +kernel)) (by decide +kernel)
theorem w_94 : (Cond.fieldLink "RamStation$Chamber" (23 : Nat) "RamStation$Chamber" "water" "I") ∈ TB := tb_of (List.mem_of_getElem? (i := 94) (by decide +kernel)) (by decide +kernel)
theorem w_95 : (Cond.fieldLink "RamStation" (90 : Nat) "RamStation$Chamber" "water" "I") ∈ TB := tb_of (List.mem_of_getElem? (i := 95) (by decide +kernel)) (by decide +kernel)
theorem w_96 : (Cond.fieldLink "RamStation$Pump" (168 : Nat) "RamStation$Chamber" "water" "I") ∈ TB := tb_of (List.mem_of_getElem? (i := 96) (by decide +kernel)) (by decide +kernel)
theorem w_97 : (Cond.fieldLink "RamStation$Chamber" (16 : Nat) "RamStation$Chamber" "air" "I") ∈ TB := tb_of (List.mem_of_getElem? (i := 97) (by decide +kernel)) (by decide +kernel)
theorem w_98 : (Cond.fieldLink "RamStation$Pump" (149 : Nat) "RamStation$Chamber" "air" "I") ∈ TB := tb_of (List.mem_of_getElem? (i := 98) (by decide +kernel)) (by decide +kernel)
theorem w_99 : (Cond.fieldLink "RamStation" (189 : Nat) "RamStation$Chamber" "air" "I") ∈ TB := tb_of (List.mem_of_getElem? (i := 99) (by decide +kernel)) (by decide +kernel)
theorem w_100 : (Cond.lays "RamStation$Chamber" "RamStation$Chamber" "volume" "I") ∈ TB := tb_of (List.mem_of_getElem? (i := 100) (by decide +kernel)) (by decide +kernel)
theorem w_102 : (Cond.lays "RamStation$Chamber" "RamStation$Chamber" "leastSpace" "I") ∈ TB := tb_of (List.mem_of_getElem? (i := 102) (by decide +kernel)) (by decide +kernel)
theorem w_104 : (Cond.lays "RamStation$Chamber" "RamStation$Chamber" "snifter" "Z") ∈ TB := tb_of (List.mem_of_getElem? (i := 104) (by decide +kernel)) (by decide +kernel)
theorem w_106 : (Cond.lays "RamStation$Chamber" "RamStation$Chamber" "water" "I") ∈ TB := tb_of (List.mem_of_getElem? (i := 106) (by decide +kernel)) (by decide +kernel)
theorem w_108 : (Cond.lays "RamStation$Chamber" "RamStation$Chamber" "air" "I") ∈ TB := tb_of (List.mem_of_getElem? (i := 108) (by decide +kernel)) (by decide +kernel)
theorem w_111 : (Cond.classLink "RamStation$Pump" (22 : Nat) "RamStation$Counters") ∈ TB := tb_of (List.mem_of_getElem? (i := 111) (by decide +kernel)) (by decide +kernel)
theorem w_112 : (Cond.instantiable "RamStation$Counters" (6 : Nat)) ∈ TB := tb_of (List.mem_of_getElem? (i := 112) (by decide +kernel)) (by decide +kernel)
theorem w_113 : (Cond.methodLinkNest "RamStation$Pump" (24 : Nat) yX2_init "RamStation") ∈ lw_tbl := List.mem_of_getElem? (i := 113) (by decide +kernel)
theorem w_114 : (Cond.instanceMethod yX2_init) ∈ TB := tb_of (List.mem_of_getElem? (i := 114) (by decide +kernel)) (by decide +kernel)
theorem w_115 : (Cond.code yX2_init cX2_init (1 : Nat) (Option.none : Option FieldType)) ∈ TB := tb_of (List.mem_of_getElem? (i := 115) (by decide +kernel)) (by decide +kernel)
theorem w_116 : (Cond.methodLink "RamStation$Counters" (1 : Nat) ({ cls := "java/lang/Object", name := "<init>", desc := "()V" } : Jvm.MethodName)) ∈ TB := tb_of (List.mem_of_getElem? (i := 116) (by decide +kernel)) (by decide +kernel)
theorem w_117 : (Cond.fieldLink "RamStation$Counters" (7 : Nat) "RamStation$Counters" "beats" "I") ∈ TB := tb_of (List.mem_of_getElem? (i := 117) (by decide +kernel)) (by decide +kernel)
theorem w_118 : (Cond.fieldLink "RamStation$Pump" (146 : Nat) "RamStation$Counters" "beats" "I") ∈ TB := tb_of (List.mem_of_getElem? (i := 118) (by decide +kernel)) (by decide +kernel)
theorem w_119 : (Cond.fieldLink "RamStation" (199 : Nat) "RamStation$Counters" "beats" "I") ∈ TB := tb_of (List.mem_of_getElem? (i := 119) (by decide +kernel)) (by decide +kernel)
theorem w_120 : (Cond.fieldLink "RamStation$Counters" (13 : Nat) "RamStation$Counters" "wasted" "I") ∈ TB := tb_of (List.mem_of_getElem? (i := 120) (by decide +kernel)) (by decide +kernel)
theorem w_121 : (Cond.fieldLink "RamStation$Pump" (126 : Nat) "RamStation$Counters" "wasted" "I") ∈ TB := tb_of (List.mem_of_getElem? (i := 121) (by decide +kernel)) (by decide +kernel)
theorem w_122 : (Cond.fieldLink "RamStation" (204 : Nat) "RamStation$Counters" "wasted" "I") ∈ TB := tb_of (List.mem_of_getElem? (i := 122) (by decide +kernel)) (by decide +kernel)
theorem w_123 : (Cond.fieldLink "RamStation$Counters" (16 : Nat) "RamStation$Counters" "relieved" "I") ∈ TB := tb_of (List.mem_of_getElem? (i := 123) (by decide +kernel)) (by decide +kernel)
theorem w_124 : (Cond.fieldLink "RamStation$Pump" (161 : Nat) "RamStation$Counters" "relieved" "I") ∈ TB := tb_of (List.mem_of_getElem? (i := 124) (by decide +kernel)) (by decide +kernel)
theorem w_125 : (Cond.fieldLink "RamStation" (207 : Nat) "RamStation$Counters" "relieved" "I") ∈ TB := tb_of (List.mem_of_getElem? (i := 125) (by decide +kernel)) (by decide +kernel)
theorem w_126 : (Cond.fieldLink "RamStation$Counters" (19 : Nat) "RamStation$Counters" "lifted" "I") ∈ TB := tb_of (List.mem_of_getElem? (i := 126) (by decide +kernel)) (by decide +kernel)
theorem w_127 : (Cond.fieldLink "RamStation$Pump" (171 : Nat) "RamStation$Counters" "lifted" "I") ∈ TB := tb_of (List.mem_of_getElem? (i := 127) (by decide +kernel)) (by decide +kernel)
theorem w_128 : (Cond.fieldLink "RamStation" (210 : Nat) "RamStation$Counters" "lifted" "I") ∈ TB := tb_of (List.mem_of_getElem? (i := 128) (by decide +kernel)) (by decide +kernel)
theorem w_129 : (Cond.fieldLink "RamStation$Counters" (22 : Nat) "RamStation$Counters" "overflowed" "I") ∈ TB := tb_of (List.mem_of_getElem? (i := 129) (by decide +kernel)) (by decide +kernel)
theorem w_130 : (Cond.fieldLink "RamStation$Pump" (177 : Nat) "RamStation$Counters" "overflowed" "I") ∈ TB := tb_of (List.mem_of_getElem? (i := 130) (by decide +kernel)) (by decide +kernel)
theorem w_131 : (Cond.fieldLink "RamStation" (213 : Nat) "RamStation$Counters" "overflowed" "I") ∈ TB := tb_of (List.mem_of_getElem? (i := 131) (by decide +kernel)) (by decide +kernel)
theorem w_132 : (Cond.fieldLink "RamStation$Counters" (25 : Nat) "RamStation$Counters" "starved" "I") ∈ TB := tb_of (List.mem_of_getElem? (i := 132) (by decide +kernel)) (by decide +kernel)
theorem w_133 : (Cond.fieldLink "RamStation$Pump" (96 : Nat) "RamStation$Counters" "starved" "I") ∈ TB := tb_of (List.mem_of_getElem? (i := 133) (by decide +kernel)) (by decide +kernel)
theorem w_134 : (Cond.fieldLink "RamStation" (216 : Nat) "RamStation$Counters" "starved" "I") ∈ TB := tb_of (List.mem_of_getElem? (i := 134) (by decide +kernel)) (by decide +kernel)
theorem w_135 : (Cond.lays "RamStation$Counters" "RamStation$Counters" "beats" "I") ∈ TB := tb_of (List.mem_of_getElem? (i := 135) (by decide +kernel)) (by decide +kernel)
theorem w_137 : (Cond.lays "RamStation$Counters" "RamStation$Counters" "wasted" "I") ∈ TB := tb_of (List.mem_of_getElem? (i := 137) (by decide +kernel)) (by decide +kernel)
theorem w_139 : (Cond.lays "RamStation$Counters" "RamStation$Counters" "relieved" "I") ∈ TB := tb_of (List.mem_of_getElem? (i := 139) (by decide +kernel)) (by decide +kernel)
theorem w_141 : (Cond.lays "RamStation$Counters" "RamStation$Counters" "lifted" "I") ∈ TB := tb_of (List.mem_of_getElem? (i := 141) (by decide +kernel)) (by decide +kernel)
theorem w_143 : (Cond.lays "RamStation$Counters" "RamStation$Counters" "overflowed" "I") ∈ TB := tb_of (List.mem_of_getElem? (i := 143) (by decide +kernel)) (by decide +kernel)
theorem w_145 : (Cond.lays "RamStation$Counters" "RamStation$Counters" "starved" "I") ∈ TB := tb_of (List.mem_of_getElem? (i := 145) (by decide +kernel)) (by decide +kernel)
theorem w_148 : (Cond.classLink "RamStation$Pump" (29 : Nat) "RamStation$Ring") ∈ TB := tb_of (List.mem_of_getElem? (i := 148) (by decide +kernel)) (by decide +kernel)
theorem w_149 : (Cond.instantiable "RamStation$Ring" (3 : Nat)) ∈ TB := tb_of (List.mem_of_getElem? (i := 149) (by decide +kernel)) (by decide +kernel)
theorem w_150 : (Cond.methodLink "RamStation$Pump" (31 : Nat) yX6_init) ∈ TB := tb_of (List.mem_of_getElem? (i := 150) (by decide +kernel)) (by decide +kernel)
theorem w_151 : (Cond.instanceMethod yX6_init) ∈ TB := tb_of (List.mem_of_getElem? (i := 151) (by decide +kernel)) (by decide +kernel)
theorem w_152 : (Cond.code yX6_init cX6_init (2 : Nat) (Option.none : Option FieldType)) ∈ TB := tb_of (List.mem_of_getElem? (i := 152) (by decide +kernel)) (by decide +kernel)
theorem w_153 : (Cond.methodLink "RamStation$Ring" (3 : Nat) ({ cls := "java/lang/Object", name := "<init>", desc := "()V" } : Jvm.MethodName)) ∈ TB := tb_of (List.mem_of_getElem? (i := 153) (by decide +kernel)) (by decide +kernel)
theorem w_154 : (Cond.methodLink "RamStation$Ring" (9 : Nat) ({ cls := "java/lang/Math", name := "max", desc := "(II)I" } : Jvm.MethodName)) ∈ TB := tb_of (List.mem_of_getElem? (i := 154) (by decide +kernel)) (by decide +kernel)
theorem w_155 : (Cond.static ({ cls := "java/lang/Math", name := "max", desc := "(II)I" } : Jvm.MethodName)) ∈ TB := tb_of (List.mem_of_getElem? (i := 155) (by decide +kernel)) (by decide +kernel)
theorem w_156 : (Cond.code ({ cls := "java/lang/Math", name := "max", desc := "(II)I" } : Jvm.MethodName) prog_12_method_65_code (2 : Nat) (Option.some FieldType.int)) ∈ TB := tb_of (List.mem_of_getElem? (i := 156) (by decide +kernel)) (by decide +kernel)
theorem w_157 : (Cond.fieldLink "RamStation$Ring" (15 : Nat) "RamStation$Ring" "places" "[I") ∈ TB := tb_of (List.mem_of_getElem? (i := 157) (by decide +kernel)) (by decide +kernel)
theorem w_158 : (Cond.fieldLink "RamStation$Ring" (25 : Nat) "RamStation$Ring" "count" "I") ∈ TB := tb_of (List.mem_of_getElem? (i := 158) (by decide +kernel)) (by decide +kernel)
theorem w_159 : (Cond.fieldLink "RamStation$Ring" (21 : Nat) "RamStation$Ring" "next" "I") ∈ TB := tb_of (List.mem_of_getElem? (i := 159) (by decide +kernel)) (by decide +kernel)
theorem w_160 : (Cond.laysFinal "RamStation$Ring" "RamStation$Ring" "places" "[I") ∈ TB := tb_of (List.mem_of_getElem? (i := 160) (by decide +kernel)) (by decide +kernel)
theorem w_162 : (Cond.lays "RamStation$Ring" "RamStation$Ring" "count" "I") ∈ TB := tb_of (List.mem_of_getElem? (i := 162) (by decide +kernel)) (by decide +kernel)
theorem w_164 : (Cond.lays "RamStation$Ring" "RamStation$Ring" "next" "I") ∈ TB := tb_of (List.mem_of_getElem? (i := 164) (by decide +kernel)) (by decide +kernel)
theorem w_167 : (Cond.arrayClass FieldType.int) ∈ TB := tb_of (List.mem_of_getElem? (i := 167) (by decide +kernel)) (by decide +kernel)
theorem w_168 : (Cond.fieldLink "RamStation$Pump" (41 : Nat) "RamStation$Pump" "supplyHead" "I") ∈ TB := tb_of (List.mem_of_getElem? (i := 168) (by decide +kernel)) (by decide +kernel)
theorem w_169 : (Cond.fieldLink "RamStation$Pump" (44 : Nat) "RamStation$Pump" "driveLength" "I") ∈ TB := tb_of (List.mem_of_getElem? (i := 169) (by decide +kernel)) (by decide +kernel)
theorem w_170 : (Cond.fieldLink "RamStation" (259 : Nat) "RamStation$Pump" "driveLength" "I") ∈ TB := tb_of (List.mem_of_getElem? (i := 170) (by decide +kernel)) (by decide +kernel)
theorem w_171 : (Cond.fieldLink "RamStation$Pump" (47 : Nat) "RamStation$Pump" "area" "I") ∈ TB := tb_of (List.mem_of_getElem? (i := 171) (by decide +kernel)) (by decide +kernel)
theorem w_172 : (Cond.fieldLink "RamStation$Pump" (50 : Nat) "RamStation$Pump" "friction" "I") ∈ TB := tb_of (List.mem_of_getElem? (i := 172) (by decide +kernel)) (by decide +kernel)
theorem w_173 : (Cond.fieldLink "RamStation$Pump" (53 : Nat) "RamStation$Pump" "lift" "I") ∈ TB := tb_of (List.mem_of_getElem? (i := 173) (by decide +kernel)) (by decide +kernel)
theorem w_174 : (Cond.fieldLink "RamStation$Pump" (56 : Nat) "RamStation$Pump" "running" "Z") ∈ TB := tb_of (List.mem_of_getElem? (i := 174) (by decide +kernel)) (by decide +kernel)
theorem w_175 : (Cond.fieldLink "RamStation$State" (34 : Nat) "RamStation$Pump" "running" "Z") ∈ TB := tb_of (List.mem_of_getElem? (i := 175) (by decide +kernel)) (by decide +kernel)
theorem w_176 : (Cond.fieldLink "RamStation" (76 : Nat) "RamStation$Pump" "running" "Z") ∈ TB := tb_of (List.mem_of_getElem? (i := 176) (by decide +kernel)) (by decide +kernel)
theorem w_177 : (Cond.fieldLink "RamStation$Pump" (60 : Nat) "RamStation$Pump" "speed" "I") ∈ TB := tb_of (List.mem_of_getElem? (i := 177) (by decide +kernel)) (by decide +kernel)
theorem w_178 : (Cond.fieldLink "RamStation" (183 : Nat) "RamStation$Pump" "speed" "I") ∈ TB := tb_of (List.mem_of_getElem? (i := 178) (by decide +kernel)) (by decide +kernel)
theorem w_179 : (Cond.fieldLink "RamStation$Pump" (63 : Nat) "RamStation$Pump" "closed" "Z") ∈ TB := tb_of (List.mem_of_getElem? (i := 179) (by decide +kernel)) (by decide +kernel)
theorem w_180 : (Cond.fieldLink "RamStation" (180 : Nat) "RamStation$Pump" "closed" "Z") ∈ TB := tb_of (List.mem_of_getElem? (i := 180) (by decide +kernel)) (by decide +kernel)
theorem w_181 : (Cond.fieldLink "RamStation$Pump" (66 : Nat) "RamStation$Pump" "openTicks" "I") ∈ TB := tb_of (List.mem_of_getElem? (i := 181) (by decide +kernel)) (by decide +kernel)
theorem w_182 : (Cond.fieldLink "RamStation" (186 : Nat) "RamStation$Pump" "openTicks" "I") ∈ TB := tb_of (List.mem_of_getElem? (i := 182) (by decide +kernel)) (by decide +kernel)
theorem w_183 : (Cond.fieldLink "RamStation$Pump" (69 : Nat) "RamStation$Pump" "valveKind" "I") ∈ TB := tb_of (List.mem_of_getElem? (i := 183) (by decide +kernel)) (by decide +kernel)
theorem w_184 : (Cond.fieldLink "RamStation" (83 : Nat) "RamStation$Pump" "valveKind" "I") ∈ TB := tb_of (List.mem_of_getElem? (i := 184) (by decide +kernel)) (by decide +kernel)
theorem w_185 : (Cond.fieldLink "RamStation$Pump" (9 : Nat) "RamStation$Pump" "setting" "I") ∈ TB := tb_of (List.mem_of_getElem? (i := 185) (by decide +kernel)) (by decide +kernel)
theorem w_186 : (Cond.fieldLink "RamStation" (80 : Nat) "RamStation$Pump" "setting" "I") ∈ TB := tb_of (List.mem_of_getElem? (i := 186) (by decide +kernel)) (by decide +kernel)
theorem w_187 : (Cond.fieldLink "RamStation$Pump" (72 : Nat) "RamStation$Pump" "tank" "I") ∈ TB := tb_of (List.mem_of_getElem? (i := 187) (by decide +kernel)) (by decide +kernel)
theorem w_188 : (Cond.fieldLink "RamStation" (119 : Nat) "RamStation$Pump" "tank" "I") ∈ TB := tb_of (List.mem_of_getElem? (i := 188) (by decide +kernel)) (by decide +kernel)
theorem w_189 : (Cond.fieldLink "RamStation$Pump" (75 : Nat) "RamStation$Pump" "intervalStart" "I") ∈ TB := tb_of (List.mem_of_getElem? (i := 189) (by decide +kernel)) (by decide +kernel)
theorem w_190 : (Cond.fieldLink "RamStation" (109 : Nat) "RamStation$Pump" "intervalStart" "I") ∈ TB := tb_of (List.mem_of_getElem? (i := 190) (by decide +kernel)) (by decide +kernel)
theorem w_191 : (Cond.fieldLink "RamStation$Pump" (18 : Nat) "RamStation$Pump" "chamber" "LRamStation$Chamber;") ∈ TB := tb_of (List.mem_of_getElem? (i := 191) (by decide +kernel)) (by decide +kernel)
theorem w_192 : (Cond.fieldLink "RamStation" (86 : Nat) "RamStation$Pump" "chamber" "LRamStation$Chamber;") ∈ TB := tb_of (List.mem_of_getElem? (i := 192) (by decide +kernel)) (by decide +kernel)
theorem w_193 : (Cond.fieldLink "RamStation$Pump" (25 : Nat) "RamStation$Pump" "counters" "LRamStation$Counters;") ∈ TB := tb_of (List.mem_of_getElem? (i := 193) (by decide +kernel)) (by decide +kernel)
theorem w_194 : (Cond.fieldLink "RamStation" (195 : Nat) "RamStation$Pump" "counters" "LRamStation$Counters;") ∈ TB := tb_of (List.mem_of_getElem? (i := 194) (by decide +kernel)) (by decide +kernel)
theorem w_195 : (Cond.fieldLink "RamStation$Pump" (34 : Nat) "RamStation$Pump" "intervals" "LRamStation$Ring;") ∈ TB := tb_of (List.mem_of_getElem? (i := 195) (by decide +kernel)) (by decide +kernel)
theorem w_196 : (Cond.fieldLink "RamStation" (219 : Nat) "RamStation$Pump" "intervals" "LRamStation$Ring;") ∈ TB := tb_of (List.mem_of_getElem? (i := 196) (by decide +kernel)) (by decide +kernel)
theorem w_197 : (Cond.fieldLink "RamStation$Pump" (38 : Nat) "RamStation$Pump" "trace" "LRamStation$Ring;") ∈ TB := tb_of (List.mem_of_getElem? (i := 197) (by decide +kernel)) (by decide +kernel)
theorem w_198 : (Cond.fieldLink "RamStation" (222 : Nat) "RamStation$Pump" "trace" "LRamStation$Ring;") ∈ TB := tb_of (List.mem_of_getElem? (i := 198) (by decide +kernel)) (by decide +kernel)
theorem w_199 : (Cond.lays "RamStation$Pump" "RamStation$Pump" "supplyHead" "I") ∈ TB := tb_of (List.mem_of_getElem? (i := 199) (by decide +kernel)) (by decide +kernel)
theorem w_201 : (Cond.lays "RamStation$Pump" "RamStation$Pump" "driveLength" "I") ∈ TB := tb_of (List.mem_of_getElem? (i := 201) (by decide +kernel)) (by decide +kernel)
theorem w_203 : (Cond.lays "RamStation$Pump" "RamStation$Pump" "area" "I") ∈ TB := tb_of (List.mem_of_getElem? (i := 203) (by decide +kernel)) (by decide +kernel)
theorem w_205 : (Cond.lays "RamStation$Pump" "RamStation$Pump" "friction" "I") ∈ TB := tb_of (List.mem_of_getElem? (i := 205) (by decide +kernel)) (by decide +kernel)
theorem w_207 : (Cond.lays "RamStation$Pump" "RamStation$Pump" "lift" "I") ∈ TB := tb_of (List.mem_of_getElem? (i := 207) (by decide +kernel)) (by decide +kernel)
theorem w_209 : (Cond.lays "RamStation$Pump" "RamStation$Pump" "running" "Z") ∈ TB := tb_of (List.mem_of_getElem? (i := 209) (by decide +kernel)) (by decide +kernel)
theorem w_211 : (Cond.lays "RamStation$Pump" "RamStation$Pump" "speed" "I") ∈ TB := tb_of (List.mem_of_getElem? (i := 211) (by decide +kernel)) (by decide +kernel)
theorem w_213 : (Cond.lays "RamStation$Pump" "RamStation$Pump" "closed" "Z") ∈ TB := tb_of (List.mem_of_getElem? (i := 213) (by decide +kernel)) (by decide +kernel)
theorem w_215 : (Cond.lays "RamStation$Pump" "RamStation$Pump" "openTicks" "I") ∈ TB := tb_of (List.mem_of_getElem? (i := 215) (by decide +kernel)) (by decide +kernel)
theorem w_217 : (Cond.lays "RamStation$Pump" "RamStation$Pump" "valveKind" "I") ∈ TB := tb_of (List.mem_of_getElem? (i := 217) (by decide +kernel)) (by decide +kernel)
theorem w_219 : (Cond.lays "RamStation$Pump" "RamStation$Pump" "setting" "I") ∈ TB := tb_of (List.mem_of_getElem? (i := 219) (by decide +kernel)) (by decide +kernel)
theorem w_221 : (Cond.lays "RamStation$Pump" "RamStation$Pump" "tank" "I") ∈ TB := tb_of (List.mem_of_getElem? (i := 221) (by decide +kernel)) (by decide +kernel)
theorem w_223 : (Cond.lays "RamStation$Pump" "RamStation$Pump" "intervalStart" "I") ∈ TB := tb_of (List.mem_of_getElem? (i := 223) (by decide +kernel)) (by decide +kernel)
theorem w_225 : (Cond.laysFinal "RamStation$Pump" "RamStation$Pump" "chamber" "LRamStation$Chamber;") ∈ TB := tb_of (List.mem_of_getElem? (i := 225) (by decide +kernel)) (by decide +kernel)
theorem w_227 : (Cond.laysFinal "RamStation$Pump" "RamStation$Pump" "counters" "LRamStation$Counters;") ∈ TB := tb_of (List.mem_of_getElem? (i := 227) (by decide +kernel)) (by decide +kernel)
theorem w_229 : (Cond.laysFinal "RamStation$Pump" "RamStation$Pump" "intervals" "LRamStation$Ring;") ∈ TB := tb_of (List.mem_of_getElem? (i := 229) (by decide +kernel)) (by decide +kernel)
theorem w_231 : (Cond.laysFinal "RamStation$Pump" "RamStation$Pump" "trace" "LRamStation$Ring;") ∈ TB := tb_of (List.mem_of_getElem? (i := 231) (by decide +kernel)) (by decide +kernel)
theorem w_234 : (Cond.fieldLink "RamStation$State" (47 : Nat) "RamStation$State" "time" "I") ∈ TB := tb_of (List.mem_of_getElem? (i := 234) (by decide +kernel)) (by decide +kernel)
theorem w_235 : (Cond.fieldLink "RamStation" (106 : Nat) "RamStation$State" "time" "I") ∈ TB := tb_of (List.mem_of_getElem? (i := 235) (by decide +kernel)) (by decide +kernel)
theorem w_236 : (Cond.fieldLink "RamStation$State" (9 : Nat) "RamStation$State" "basin" "I") ∈ TB := tb_of (List.mem_of_getElem? (i := 236) (by decide +kernel)) (by decide +kernel)
theorem w_237 : (Cond.fieldLink "RamStation" (156 : Nat) "RamStation$State" "basin" "I") ∈ TB := tb_of (List.mem_of_getElem? (i := 237) (by decide +kernel)) (by decide +kernel)
theorem w_238 : (Cond.fieldLink "RamStation$State" (44 : Nat) "RamStation$State" "spilled" "I") ∈ TB := tb_of (List.mem_of_getElem? (i := 238) (by decide +kernel)) (by decide +kernel)
theorem w_239 : (Cond.fieldLink "RamStation" (159 : Nat) "RamStation$State" "spilled" "I") ∈ TB := tb_of (List.mem_of_getElem? (i := 239) (by decide +kernel)) (by decide +kernel)
theorem w_240 : (Cond.fieldLink "RamStation$State" (15 : Nat) "RamStation$State" "inflow" "I") ∈ TB := tb_of (List.mem_of_getElem? (i := 240) (by decide +kernel)) (by decide +kernel)
theorem w_241 : (Cond.fieldLink "RamStation" (103 : Nat) "RamStation$State" "inflow" "I") ∈ TB := tb_of (List.mem_of_getElem? (i := 241) (by decide +kernel)) (by decide +kernel)
theorem w_242 : (Cond.fieldLink "RamStation$State" (27 : Nat) "RamStation$State" "pumpCount" "I") ∈ TB := tb_of (List.mem_of_getElem? (i := 242) (by decide +kernel)) (by decide +kernel)
theorem w_243 : (Cond.fieldLink "RamStation" (62 : Nat) "RamStation$State" "pumpCount" "I") ∈ TB := tb_of (List.mem_of_getElem? (i := 243) (by decide +kernel)) (by decide +kernel)
theorem w_244 : (Cond.fieldLink "RamStation$State" (20 : Nat) "RamStation$State" "pumps" "[LRamStation$Pump;") ∈ TB := tb_of (List.mem_of_getElem? (i := 244) (by decide +kernel)) (by decide +kernel)
theorem w_245 : (Cond.fieldLink "RamStation" (65 : Nat) "RamStation$State" "pumps" "[LRamStation$Pump;") ∈ TB := tb_of (List.mem_of_getElem? (i := 245) (by decide +kernel)) (by decide +kernel)
theorem w_246 : (Cond.lays "RamStation$State" "RamStation$State" "time" "I") ∈ TB := tb_of (List.mem_of_getElem? (i := 246) (by decide +kernel)) (by decide +kernel)
theorem w_248 : (Cond.lays "RamStation$State" "RamStation$State" "basin" "I") ∈ TB := tb_of (List.mem_of_getElem? (i := 248) (by decide +kernel)) (by decide +kernel)
theorem w_250 : (Cond.lays "RamStation$State" "RamStation$State" "spilled" "I") ∈ TB := tb_of (List.mem_of_getElem? (i := 250) (by decide +kernel)) (by decide +kernel)
theorem w_252 : (Cond.lays "RamStation$State" "RamStation$State" "inflow" "I") ∈ TB := tb_of (List.mem_of_getElem? (i := 252) (by decide +kernel)) (by decide +kernel)
theorem w_254 : (Cond.lays "RamStation$State" "RamStation$State" "pumpCount" "I") ∈ TB := tb_of (List.mem_of_getElem? (i := 254) (by decide +kernel)) (by decide +kernel)
theorem w_256 : (Cond.laysFinal "RamStation$State" "RamStation$State" "pumps" "[LRamStation$Pump;") ∈ TB := tb_of (List.mem_of_getElem? (i := 256) (by decide +kernel)) (by decide +kernel)
theorem w_259 : (Cond.arrayOver (FieldType.object "RamStation$State")) ∈ lw_tbl := List.mem_of_getElem? (i := 259) (by decide +kernel)
theorem w_260 : (Cond.classLink "RamStation" (24 : Nat) "RamStation$CommandText") ∈ TB := tb_of (List.mem_of_getElem? (i := 260) (by decide +kernel)) (by decide +kernel)
theorem w_261 : (Cond.instantiable "RamStation$CommandText" (2 : Nat)) ∈ TB := tb_of (List.mem_of_getElem? (i := 261) (by decide +kernel)) (by decide +kernel)
theorem w_262 : (Cond.methodLinkNest "RamStation" (26 : Nat) yX1_init "RamStation") ∈ lw_tbl := List.mem_of_getElem? (i := 262) (by decide +kernel)
theorem w_263 : (Cond.instanceMethod yX1_init) ∈ TB := tb_of (List.mem_of_getElem? (i := 263) (by decide +kernel)) (by decide +kernel)
theorem w_264 : (Cond.code yX1_init cX1_init (1 : Nat) (Option.none : Option FieldType)) ∈ TB := tb_of (List.mem_of_getElem? (i := 264) (by decide +kernel)) (by decide +kernel)
theorem w_265 : (Cond.methodLink "RamStation$CommandText" (3 : Nat) ({ cls := "java/lang/Object", name := "<init>", desc := "()V" } : Jvm.MethodName)) ∈ TB := tb_of (List.mem_of_getElem? (i := 265) (by decide +kernel)) (by decide +kernel)
theorem w_266 : (Cond.fieldLink "RamStation$CommandText" (9 : Nat) "RamStation$CommandText" "signs" "[C") ∈ TB := tb_of (List.mem_of_getElem? (i := 266) (by decide +kernel)) (by decide +kernel)
theorem w_267 : (Cond.fieldLink "RamStation" (138 : Nat) "RamStation$CommandText" "signs" "[C") ∈ TB := tb_of (List.mem_of_getElem? (i := 267) (by decide +kernel)) (by decide +kernel)
theorem w_268 : (Cond.fieldLink "RamStation$CommandText" (15 : Nat) "RamStation$CommandText" "length" "I") ∈ TB := tb_of (List.mem_of_getElem? (i := 268) (by decide +kernel)) (by decide +kernel)
theorem w_269 : (Cond.fieldLink "RamStation" (135 : Nat) "RamStation$CommandText" "length" "I") ∈ TB := tb_of (List.mem_of_getElem? (i := 269) (by decide +kernel)) (by decide +kernel)
theorem w_270 : (Cond.laysFinal "RamStation$CommandText" "RamStation$CommandText" "signs" "[C") ∈ TB := tb_of (List.mem_of_getElem? (i := 270) (by decide +kernel)) (by decide +kernel)
theorem w_272 : (Cond.lays "RamStation$CommandText" "RamStation$CommandText" "length" "I") ∈ TB := tb_of (List.mem_of_getElem? (i := 272) (by decide +kernel)) (by decide +kernel)
theorem w_275 : (Cond.arrayClass FieldType.char) ∈ TB := tb_of (List.mem_of_getElem? (i := 275) (by decide +kernel)) (by decide +kernel)
theorem w_276 : (Cond.classLink "RamStation" (31 : Nat) "RamStation$IncidentLog") ∈ TB := tb_of (List.mem_of_getElem? (i := 276) (by decide +kernel)) (by decide +kernel)
theorem w_277 : (Cond.instantiable "RamStation$IncidentLog" (4 : Nat)) ∈ TB := tb_of (List.mem_of_getElem? (i := 277) (by decide +kernel)) (by decide +kernel)
theorem w_278 : (Cond.methodLinkNest "RamStation" (33 : Nat) yX3_init "RamStation") ∈ lw_tbl := List.mem_of_getElem? (i := 278) (by decide +kernel)
theorem w_279 : (Cond.instanceMethod yX3_init) ∈ TB := tb_of (List.mem_of_getElem? (i := 279) (by decide +kernel)) (by decide +kernel)
theorem w_280 : (Cond.code yX3_init cX3_init (1 : Nat) (Option.none : Option FieldType)) ∈ TB := tb_of (List.mem_of_getElem? (i := 280) (by decide +kernel)) (by decide +kernel)
theorem w_281 : (Cond.methodLink "RamStation$IncidentLog" (3 : Nat) ({ cls := "java/lang/Object", name := "<init>", desc := "()V" } : Jvm.MethodName)) ∈ TB := tb_of (List.mem_of_getElem? (i := 281) (by decide +kernel)) (by decide +kernel)
theorem w_282 : (Cond.classLink "RamStation$IncidentLog" (9 : Nat) "RamStation$Ring") ∈ TB := tb_of (List.mem_of_getElem? (i := 282) (by decide +kernel)) (by decide +kernel)
theorem w_283 : (Cond.methodLink "RamStation$IncidentLog" (11 : Nat) yX6_init) ∈ TB := tb_of (List.mem_of_getElem? (i := 283) (by decide +kernel)) (by decide +kernel)
theorem w_284 : (Cond.fieldLink "RamStation$IncidentLog" (26 : Nat) "RamStation$IncidentLog" "total" "I") ∈ TB := tb_of (List.mem_of_getElem? (i := 284) (by decide +kernel)) (by decide +kernel)
theorem w_285 : (Cond.fieldLink "RamStation" (162 : Nat) "RamStation$IncidentLog" "total" "I") ∈ TB := tb_of (List.mem_of_getElem? (i := 285) (by decide +kernel)) (by decide +kernel)
theorem w_286 : (Cond.fieldLink "RamStation$IncidentLog" (14 : Nat) "RamStation$IncidentLog" "kinds" "LRamStation$Ring;") ∈ TB := tb_of (List.mem_of_getElem? (i := 286) (by decide +kernel)) (by decide +kernel)
theorem w_287 : (Cond.fieldLink "RamStation" (165 : Nat) "RamStation$IncidentLog" "kinds" "LRamStation$Ring;") ∈ TB := tb_of (List.mem_of_getElem? (i := 287) (by decide +kernel)) (by decide +kernel)
theorem w_288 : (Cond.fieldLink "RamStation$IncidentLog" (20 : Nat) "RamStation$IncidentLog" "pumpNumbers" "LRamStation$Ring;") ∈ TB := tb_of (List.mem_of_getElem? (i := 288) (by decide +kernel)) (by decide +kernel)
theorem w_289 : (Cond.fieldLink "RamStation" (174 : Nat) "RamStation$IncidentLog" "pumpNumbers" "LRamStation$Ring;") ∈ TB := tb_of (List.mem_of_getElem? (i := 289) (by decide +kernel)) (by decide +kernel)
theorem w_290 : (Cond.fieldLink "RamStation$IncidentLog" (23 : Nat) "RamStation$IncidentLog" "times" "LRamStation$Ring;") ∈ TB := tb_of (List.mem_of_getElem? (i := 290) (by decide +kernel)) (by decide +kernel)
theorem w_291 : (Cond.fieldLink "RamStation" (177 : Nat) "RamStation$IncidentLog" "times" "LRamStation$Ring;") ∈ TB := tb_of (List.mem_of_getElem? (i := 291) (by decide +kernel)) (by decide +kernel)
theorem w_292 : (Cond.lays "RamStation$IncidentLog" "RamStation$IncidentLog" "total" "I") ∈ TB := tb_of (List.mem_of_getElem? (i := 292) (by decide +kernel)) (by decide +kernel)
theorem w_294 : (Cond.laysFinal "RamStation$IncidentLog" "RamStation$IncidentLog" "kinds" "LRamStation$Ring;") ∈ TB := tb_of (List.mem_of_getElem? (i := 294) (by decide +kernel)) (by decide +kernel)
theorem w_296 : (Cond.laysFinal "RamStation$IncidentLog" "RamStation$IncidentLog" "pumpNumbers" "LRamStation$Ring;") ∈ TB := tb_of (List.mem_of_getElem? (i := 296) (by decide +kernel)) (by decide +kernel)
theorem w_298 : (Cond.laysFinal "RamStation$IncidentLog" "RamStation$IncidentLog" "times" "LRamStation$Ring;") ∈ TB := tb_of (List.mem_of_getElem? (i := 298) (by decide +kernel)) (by decide +kernel)
theorem w_301 : (Cond.classLink "RamStation" (38 : Nat) "RamStation$Report") ∈ TB := tb_of (List.mem_of_getElem? (i := 301) (by decide +kernel)) (by decide +kernel)
theorem w_302 : (Cond.instantiable "RamStation$Report" (5 : Nat)) ∈ TB := tb_of (List.mem_of_getElem? (i := 302) (by decide +kernel)) (by decide +kernel)
theorem w_303 : (Cond.methodLinkNest "RamStation" (40 : Nat) yX5_init "RamStation") ∈ lw_tbl := List.mem_of_getElem? (i := 303) (by decide +kernel)
theorem w_304 : (Cond.instanceMethod yX5_init) ∈ TB := tb_of (List.mem_of_getElem? (i := 304) (by decide +kernel)) (by decide +kernel)
theorem w_305 : (Cond.code yX5_init cX5_init (1 : Nat) (Option.none : Option FieldType)) ∈ TB := tb_of (List.mem_of_getElem? (i := 305) (by decide +kernel)) (by decide +kernel)
theorem w_306 : (Cond.methodLink "RamStation$Report" (1 : Nat) ({ cls := "java/lang/Object", name := "<init>", desc := "()V" } : Jvm.MethodName)) ∈ TB := tb_of (List.mem_of_getElem? (i := 306) (by decide +kernel)) (by decide +kernel)
theorem w_307 : (Cond.fieldLink "RamStation$Report" (7 : Nat) "RamStation$Report" "drawn" "I") ∈ TB := tb_of (List.mem_of_getElem? (i := 307) (by decide +kernel)) (by decide +kernel)
theorem w_308 : (Cond.fieldLink "RamStation$Pump" (102 : Nat) "RamStation$Report" "drawn" "I") ∈ TB := tb_of (List.mem_of_getElem? (i := 308) (by decide +kernel)) (by decide +kernel)
theorem w_309 : (Cond.fieldLink "RamStation" (243 : Nat) "RamStation$Report" "drawn" "I") ∈ TB := tb_of (List.mem_of_getElem? (i := 309) (by decide +kernel)) (by decide +kernel)
theorem w_310 : (Cond.fieldLink "RamStation$Report" (13 : Nat) "RamStation$Report" "delivered" "I") ∈ TB := tb_of (List.mem_of_getElem? (i := 310) (by decide +kernel)) (by decide +kernel)
theorem w_311 : (Cond.fieldLink "RamStation$Pump" (174 : Nat) "RamStation$Report" "delivered" "I") ∈ TB := tb_of (List.mem_of_getElem? (i := 311) (by decide +kernel)) (by decide +kernel)
theorem w_312 : (Cond.fieldLink "RamStation" (266 : Nat) "RamStation$Report" "delivered" "I") ∈ TB := tb_of (List.mem_of_getElem? (i := 312) (by decide +kernel)) (by decide +kernel)
theorem w_313 : (Cond.fieldLink "RamStation$Report" (16 : Nat) "RamStation$Report" "slammed" "Z") ∈ TB := tb_of (List.mem_of_getElem? (i := 313) (by decide +kernel)) (by decide +kernel)
theorem w_314 : (Cond.fieldLink "RamStation$Pump" (143 : Nat) "RamStation$Report" "slammed" "Z") ∈ TB := tb_of (List.mem_of_getElem? (i := 314) (by decide +kernel)) (by decide +kernel)
theorem w_315 : (Cond.fieldLink "RamStation" (237 : Nat) "RamStation$Report" "slammed" "Z") ∈ TB := tb_of (List.mem_of_getElem? (i := 315) (by decide +kernel)) (by decide +kernel)
theorem w_316 : (Cond.fieldLink "RamStation$Report" (20 : Nat) "RamStation$Report" "firstIncident" "I") ∈ TB := tb_of (List.mem_of_getElem? (i := 316) (by decide +kernel)) (by decide +kernel)
theorem w_317 : (Cond.fieldLink "RamStation$Pump" (99 : Nat) "RamStation$Report" "firstIncident" "I") ∈ TB := tb_of (List.mem_of_getElem? (i := 317) (by decide +kernel)) (by decide +kernel)
theorem w_318 : (Cond.fieldLink "RamStation" (272 : Nat) "RamStation$Report" "firstIncident" "I") ∈ TB := tb_of (List.mem_of_getElem? (i := 318) (by decide +kernel)) (by decide +kernel)
theorem w_319 : (Cond.fieldLink "RamStation$Report" (23 : Nat) "RamStation$Report" "overflowing" "Z") ∈ TB := tb_of (List.mem_of_getElem? (i := 319) (by decide +kernel)) (by decide +kernel)
theorem w_320 : (Cond.fieldLink "RamStation$Pump" (180 : Nat) "RamStation$Report" "overflowing" "Z") ∈ TB := tb_of (List.mem_of_getElem? (i := 320) (by decide +kernel)) (by decide +kernel)
theorem w_321 : (Cond.fieldLink "RamStation" (279 : Nat) "RamStation$Report" "overflowing" "Z") ∈ TB := tb_of (List.mem_of_getElem? (i := 321) (by decide +kernel)) (by decide +kernel)
theorem w_322 : (Cond.lays "RamStation$Report" "RamStation$Report" "drawn" "I") ∈ TB := tb_of (List.mem_of_getElem? (i := 322) (by decide +kernel)) (by decide +kernel)
theorem w_324 : (Cond.lays "RamStation$Report" "RamStation$Report" "delivered" "I") ∈ TB := tb_of (List.mem_of_getElem? (i := 324) (by decide +kernel)) (by decide +kernel)
theorem w_326 : (Cond.lays "RamStation$Report" "RamStation$Report" "slammed" "Z") ∈ TB := tb_of (List.mem_of_getElem? (i := 326) (by decide +kernel)) (by decide +kernel)
theorem w_328 : (Cond.lays "RamStation$Report" "RamStation$Report" "firstIncident" "I") ∈ TB := tb_of (List.mem_of_getElem? (i := 328) (by decide +kernel)) (by decide +kernel)
theorem w_330 : (Cond.lays "RamStation$Report" "RamStation$Report" "overflowing" "Z") ∈ TB := tb_of (List.mem_of_getElem? (i := 330) (by decide +kernel)) (by decide +kernel)
theorem w_333 : (Cond.classLink "RamStation" (45 : Nat) "RamStation$Pump") ∈ TB := tb_of (List.mem_of_getElem? (i := 333) (by decide +kernel)) (by decide +kernel)
theorem w_334 : (Cond.methodLink "RamStation" (47 : Nat) yX4_init) ∈ TB := tb_of (List.mem_of_getElem? (i := 334) (by decide +kernel)) (by decide +kernel)
theorem w_335 : (Cond.fieldLink "RamStation" (10 : Nat) "RamStation" "state" "LRamStation$State;") ∈ TB := tb_of (List.mem_of_getElem? (i := 335) (by decide +kernel)) (by decide +kernel)
theorem w_336 : (Cond.fieldLink "RamStation" (16 : Nat) "RamStation" "recorded" "[LRamStation$State;") ∈ TB := tb_of (List.mem_of_getElem? (i := 336) (by decide +kernel)) (by decide +kernel)
theorem w_337 : (Cond.fieldLink "RamStation" (125 : Nat) "RamStation" "recordedCount" "I") ∈ TB := tb_of (List.mem_of_getElem? (i := 337) (by decide +kernel)) (by decide +kernel)
theorem w_338 : (Cond.fieldLink "RamStation" (128 : Nat) "RamStation" "recordNext" "I") ∈ TB := tb_of (List.mem_of_getElem? (i := 338) (by decide +kernel)) (by decide +kernel)
theorem w_339 : (Cond.fieldLink "RamStation" (145 : Nat) "RamStation" "executing" "Z") ∈ TB := tb_of (List.mem_of_getElem? (i := 339) (by decide +kernel)) (by decide +kernel)
theorem w_340 : (Cond.fieldLink "RamStation" (20 : Nat) "RamStation" "lastFailure" "I") ∈ TB := tb_of (List.mem_of_getElem? (i := 340) (by decide +kernel)) (by decide +kernel)
theorem w_341 : (Cond.fieldLink "RamStation" (27 : Nat) "RamStation" "text" "LRamStation$CommandText;") ∈ TB := tb_of (List.mem_of_getElem? (i := 341) (by decide +kernel)) (by decide +kernel)
theorem w_342 : (Cond.fieldLink "RamStation" (34 : Nat) "RamStation" "log" "LRamStation$IncidentLog;") ∈ TB := tb_of (List.mem_of_getElem? (i := 342) (by decide +kernel)) (by decide +kernel)
theorem w_343 : (Cond.fieldLink "RamStation" (41 : Nat) "RamStation" "report" "LRamStation$Report;") ∈ TB := tb_of (List.mem_of_getElem? (i := 343) (by decide +kernel)) (by decide +kernel)
theorem w_344 : (Cond.fieldLink "RamStation" (50 : Nat) "RamStation" "trial" "LRamStation$Pump;") ∈ TB := tb_of (List.mem_of_getElem? (i := 344) (by decide +kernel)) (by decide +kernel)
theorem w_345 : (Cond.fieldLink "RamStation" (54 : Nat) "RamStation" "slamMarks" "[J") ∈ TB := tb_of (List.mem_of_getElem? (i := 345) (by decide +kernel)) (by decide +kernel)
theorem w_346 : (Cond.laysFinal "RamStation" "RamStation" "state" "LRamStation$State;") ∈ TB := tb_of (List.mem_of_getElem? (i := 346) (by decide +kernel)) (by decide +kernel)
theorem w_348 : (Cond.laysFinal "RamStation" "RamStation" "recorded" "[LRamStation$State;") ∈ TB := tb_of (List.mem_of_getElem? (i := 348) (by decide +kernel)) (by decide +kernel)
theorem w_350 : (Cond.lays "RamStation" "RamStation" "recordedCount" "I") ∈ TB := tb_of (List.mem_of_getElem? (i := 350) (by decide +kernel)) (by decide +kernel)
theorem w_352 : (Cond.lays "RamStation" "RamStation" "recordNext" "I") ∈ TB := tb_of (List.mem_of_getElem? (i := 352) (by decide +kernel)) (by decide +kernel)
theorem w_354 : (Cond.lays "RamStation" "RamStation" "executing" "Z") ∈ TB := tb_of (List.mem_of_getElem? (i := 354) (by decide +kernel)) (by decide +kernel)
theorem w_356 : (Cond.lays "RamStation" "RamStation" "lastFailure" "I") ∈ TB := tb_of (List.mem_of_getElem? (i := 356) (by decide +kernel)) (by decide +kernel)
theorem w_358 : (Cond.laysFinal "RamStation" "RamStation" "text" "LRamStation$CommandText;") ∈ TB := tb_of (List.mem_of_getElem? (i := 358) (by decide +kernel)) (by decide +kernel)
theorem w_360 : (Cond.laysFinal "RamStation" "RamStation" "log" "LRamStation$IncidentLog;") ∈ TB := tb_of (List.mem_of_getElem? (i := 360) (by decide +kernel)) (by decide +kernel)
theorem w_362 : (Cond.laysFinal "RamStation" "RamStation" "report" "LRamStation$Report;") ∈ TB := tb_of (List.mem_of_getElem? (i := 362) (by decide +kernel)) (by decide +kernel)
theorem w_364 : (Cond.laysFinal "RamStation" "RamStation" "trial" "LRamStation$Pump;") ∈ TB := tb_of (List.mem_of_getElem? (i := 364) (by decide +kernel)) (by decide +kernel)
theorem w_366 : (Cond.laysFinal "RamStation" "RamStation" "slamMarks" "[J") ∈ TB := tb_of (List.mem_of_getElem? (i := 366) (by decide +kernel)) (by decide +kernel)
theorem w_369 : (Cond.arrayClass FieldType.long) ∈ TB := tb_of (List.mem_of_getElem? (i := 369) (by decide +kernel)) (by decide +kernel)
theorem w_370 : (Cond.methodLink "RamStationLaw" (13 : Nat) yX8_addPump) ∈ TB := tb_of (List.mem_of_getElem? (i := 370) (by decide +kernel)) (by decide +kernel)
theorem w_371 : (Cond.instanceMethod yX8_addPump) ∈ TB := tb_of (List.mem_of_getElem? (i := 371) (by decide +kernel)) (by decide +kernel)
theorem w_372 : (Cond.selects "RamStation" yX8_addPump yX8_addPump) ∈ TB := tb_of (List.mem_of_getElem? (i := 372) (by decide +kernel)) (by decide +kernel)
theorem w_373 : (Cond.code yX8_addPump cX8_addPump (7 : Nat) (Option.some FieldType.int)) ∈ TB := tb_of (List.mem_of_getElem? (i := 373) (by decide +kernel)) (by decide +kernel)
theorem w_374 : (Cond.methodLink "RamStation" (58 : Nat) yX8_outside) ∈ TB := tb_of (List.mem_of_getElem? (i := 374) (by decide +kernel)) (by decide +kernel)
theorem w_375 : (Cond.static yX8_outside) ∈ TB := tb_of (List.mem_of_getElem? (i := 375) (by decide +kernel)) (by decide +kernel)
theorem w_376 : (Cond.code yX8_outside cX8_outside (3 : Nat) (Option.some FieldType.boolean)) ∈ TB := tb_of (List.mem_of_getElem? (i := 376) (by decide +kernel)) (by decide +kernel)
theorem w_377 : (Cond.methodLink "RamStation" (69 : Nat) yX8_keepState) ∈ TB := tb_of (List.mem_of_getElem? (i := 377) (by decide +kernel)) (by decide +kernel)
theorem w_379 : (Cond.instanceMethod yX8_keepState) ∈ TB := tb_of (List.mem_of_getElem? (i := 379) (by decide +kernel)) (by decide +kernel)
theorem w_380 : (Cond.code yX8_keepState cX8_keepState (1 : Nat) (Option.none : Option FieldType)) ∈ TB := tb_of (List.mem_of_getElem? (i := 380) (by decide +kernel)) (by decide +kernel)
theorem w_381 : (Cond.methodLink "RamStation" (131 : Nat) yX7_copyFrom) ∈ TB := tb_of (List.mem_of_getElem? (i := 381) (by decide +kernel)) (by decide +kernel)
theorem w_382 : (Cond.instanceMethod yX7_copyFrom) ∈ TB := tb_of (List.mem_of_getElem? (i := 382) (by decide +kernel)) (by decide +kernel)
theorem w_383 : (Cond.selects "RamStation$State" yX7_copyFrom yX7_copyFrom) ∈ TB := tb_of (List.mem_of_getElem? (i := 383) (by decide +kernel)) (by decide +kernel)
theorem w_384 : (Cond.code yX7_copyFrom cX7_copyFrom (3 : Nat) (Option.none : Option FieldType)) ∈ TB := tb_of (List.mem_of_getElem? (i := 384) (by decide +kernel)) (by decide +kernel)
theorem w_385 : (Cond.methodLink "RamStation$State" (50 : Nat) yX4_copyFrom) ∈ TB := tb_of (List.mem_of_getElem? (i := 385) (by decide +kernel)) (by decide +kernel)
theorem w_386 : (Cond.instanceMethod yX4_copyFrom) ∈ TB := tb_of (List.mem_of_getElem? (i := 386) (by decide +kernel)) (by decide +kernel)
theorem w_387 : (Cond.selects "RamStation$Pump" yX4_copyFrom yX4_copyFrom) ∈ TB := tb_of (List.mem_of_getElem? (i := 387) (by decide +kernel)) (by decide +kernel)
theorem w_388 : (Cond.code yX4_copyFrom cX4_copyFrom (2 : Nat) (Option.none : Option FieldType)) ∈ TB := tb_of (List.mem_of_getElem? (i := 388) (by decide +kernel)) (by decide +kernel)
theorem w_389 : (Cond.methodLink "RamStation$Pump" (78 : Nat) yX0_copyFrom) ∈ TB := tb_of (List.mem_of_getElem? (i := 389) (by decide +kernel)) (by decide +kernel)
theorem w_390 : (Cond.instanceMethod yX0_copyFrom) ∈ TB := tb_of (List.mem_of_getElem? (i := 390) (by decide +kernel)) (by decide +kernel)
theorem w_391 : (Cond.selects "RamStation$Chamber" yX0_copyFrom yX0_copyFrom) ∈ TB := tb_of (List.mem_of_getElem? (i := 391) (by decide +kernel)) (by decide +kernel)
theorem w_392 : (Cond.code yX0_copyFrom cX0_copyFrom (2 : Nat) (Option.none : Option FieldType)) ∈ TB := tb_of (List.mem_of_getElem? (i := 392) (by decide +kernel)) (by decide +kernel)
theorem w_393 : (Cond.methodLink "RamStation$Pump" (82 : Nat) yX2_copyFrom) ∈ TB := tb_of (List.mem_of_getElem? (i := 393) (by decide +kernel)) (by decide +kernel)
theorem w_394 : (Cond.instanceMethod yX2_copyFrom) ∈ TB := tb_of (List.mem_of_getElem? (i := 394) (by decide +kernel)) (by decide +kernel)
theorem w_395 : (Cond.selects "RamStation$Counters" yX2_copyFrom yX2_copyFrom) ∈ TB := tb_of (List.mem_of_getElem? (i := 395) (by decide +kernel)) (by decide +kernel)
theorem w_396 : (Cond.code yX2_copyFrom cX2_copyFrom (2 : Nat) (Option.none : Option FieldType)) ∈ TB := tb_of (List.mem_of_getElem? (i := 396) (by decide +kernel)) (by decide +kernel)
theorem w_397 : (Cond.methodLink "RamStation$Pump" (85 : Nat) yX6_copyFrom) ∈ TB := tb_of (List.mem_of_getElem? (i := 397) (by decide +kernel)) (by decide +kernel)
theorem w_398 : (Cond.instanceMethod yX6_copyFrom) ∈ TB := tb_of (List.mem_of_getElem? (i := 398) (by decide +kernel)) (by decide +kernel)
theorem w_399 : (Cond.selects "RamStation$Ring" yX6_copyFrom yX6_copyFrom) ∈ TB := tb_of (List.mem_of_getElem? (i := 399) (by decide +kernel)) (by decide +kernel)
theorem w_400 : (Cond.code yX6_copyFrom cX6_copyFrom (2 : Nat) (Option.none : Option FieldType)) ∈ TB := tb_of (List.mem_of_getElem? (i := 400) (by decide +kernel)) (by decide +kernel)
theorem w_401 : (Cond.methodLink "RamStation$Ring" (32 : Nat) ({ cls := "java/lang/Math", name := "min", desc := "(II)I" } : Jvm.MethodName)) ∈ TB := tb_of (List.mem_of_getElem? (i := 401) (by decide +kernel)) (by decide +kernel)
theorem w_402 : (Cond.static ({ cls := "java/lang/Math", name := "min", desc := "(II)I" } : Jvm.MethodName)) ∈ TB := tb_of (List.mem_of_getElem? (i := 402) (by decide +kernel)) (by decide +kernel)
theorem w_403 : (Cond.code ({ cls := "java/lang/Math", name := "min", desc := "(II)I" } : Jvm.MethodName) prog_12_method_69_code (2 : Nat) (Option.some FieldType.int)) ∈ TB := tb_of (List.mem_of_getElem? (i := 403) (by decide +kernel)) (by decide +kernel)
theorem w_404 : (Cond.methodLink "RamStation$Ring" (35 : Nat) ({ cls := "java/lang/System", name := "arraycopy", desc := "(Ljava/lang/Object;ILjava/lang/Object;II)V" } : Jvm.MethodName)) ∈ TB := tb_of (List.mem_of_getElem? (i := 404) (by decide +kernel)) (by decide +kernel)
theorem w_405 : (Cond.static ({ cls := "java/lang/System", name := "arraycopy", desc := "(Ljava/lang/Object;ILjava/lang/Object;II)V" } : Jvm.MethodName)) ∈ TB := tb_of (List.mem_of_getElem? (i := 405) (by decide +kernel)) (by decide +kernel)
theorem w_406 : (Cond.native ({ cls := "java/lang/System", name := "arraycopy", desc := "(Ljava/lang/Object;ILjava/lang/Object;II)V" } : Jvm.MethodName)) ∈ TB := tb_of (List.mem_of_getElem? (i := 406) (by decide +kernel)) (by decide +kernel)
theorem w_407 : (Cond.methodLink "RamStationLaw" (18 : Nat) yX8_setValve) ∈ TB := tb_of (List.mem_of_getElem? (i := 407) (by decide +kernel)) (by decide +kernel)
theorem w_408 : (Cond.instanceMethod yX8_setValve) ∈ TB := tb_of (List.mem_of_getElem? (i := 408) (by decide +kernel)) (by decide +kernel)
theorem w_409 : (Cond.selects "RamStation" yX8_setValve yX8_setValve) ∈ TB := tb_of (List.mem_of_getElem? (i := 409) (by decide +kernel)) (by decide +kernel)
theorem w_410 : (Cond.code yX8_setValve cX8_setValve (6 : Nat) (Option.some FieldType.int)) ∈ TB := tb_of (List.mem_of_getElem? (i := 410) (by decide +kernel)) (by decide +kernel)
theorem w_411 : (Cond.methodLink "RamStation" (72 : Nat) yX7_pumpAt) ∈ TB := tb_of (List.mem_of_getElem? (i := 411) (by decide +kernel)) (by decide +kernel)
theorem w_412 : (Cond.instanceMethod yX7_pumpAt) ∈ TB := tb_of (List.mem_of_getElem? (i := 412) (by decide +kernel)) (by decide +kernel)
theorem w_413 : (Cond.selects "RamStation$State" yX7_pumpAt yX7_pumpAt) ∈ TB := tb_of (List.mem_of_getElem? (i := 413) (by decide +kernel)) (by decide +kernel)
theorem w_414 : (Cond.code yX7_pumpAt cX7_pumpAt (2 : Nat) (Option.some (FieldType.object "RamStation$Pump"))) ∈ TB := tb_of (List.mem_of_getElem? (i := 414) (by decide +kernel)) (by decide +kernel)
theorem w_415 : (Cond.methodLinkNest "RamStation$State" (30 : Nat) yX8_outside "RamStation") ∈ lw_tbl := List.mem_of_getElem? (i := 415) (by decide +kernel)
theorem w_416 : (Cond.methodLink "RamStationLaw" (23 : Nat) yX8_setChamber) ∈ TB := tb_of (List.mem_of_getElem? (i := 416) (by decide +kernel)) (by decide +kernel)
theorem w_417 : (Cond.instanceMethod yX8_setChamber) ∈ TB := tb_of (List.mem_of_getElem? (i := 417) (by decide +kernel)) (by decide +kernel)
theorem w_418 : (Cond.selects "RamStation" yX8_setChamber yX8_setChamber) ∈ TB := tb_of (List.mem_of_getElem? (i := 418) (by decide +kernel)) (by decide +kernel)
theorem w_419 : (Cond.code yX8_setChamber cX8_setChamber (6 : Nat) (Option.some FieldType.int)) ∈ TB := tb_of (List.mem_of_getElem? (i := 419) (by decide +kernel)) (by decide +kernel)
theorem w_420 : (Cond.methodLink "RamStation" (95 : Nat) yX7_fillBasin) ∈ TB := tb_of (List.mem_of_getElem? (i := 420) (by decide +kernel)) (by decide +kernel)
theorem w_421 : (Cond.instanceMethod yX7_fillBasin) ∈ TB := tb_of (List.mem_of_getElem? (i := 421) (by decide +kernel)) (by decide +kernel)
theorem w_422 : (Cond.selects "RamStation$State" yX7_fillBasin yX7_fillBasin) ∈ TB := tb_of (List.mem_of_getElem? (i := 422) (by decide +kernel)) (by decide +kernel)
theorem w_423 : (Cond.code yX7_fillBasin cX7_fillBasin (3 : Nat) (Option.none : Option FieldType)) ∈ TB := tb_of (List.mem_of_getElem? (i := 423) (by decide +kernel)) (by decide +kernel)
theorem w_424 : (Cond.methodLink "RamStation$State" (38 : Nat) ({ cls := "java/lang/Math", name := "min", desc := "(II)I" } : Jvm.MethodName)) ∈ TB := tb_of (List.mem_of_getElem? (i := 424) (by decide +kernel)) (by decide +kernel)
theorem w_425 : (Cond.methodLink "RamStation" (99 : Nat) yX0_renew) ∈ TB := tb_of (List.mem_of_getElem? (i := 425) (by decide +kernel)) (by decide +kernel)
theorem w_426 : (Cond.instanceMethod yX0_renew) ∈ TB := tb_of (List.mem_of_getElem? (i := 426) (by decide +kernel)) (by decide +kernel)
theorem w_427 : (Cond.selects "RamStation$Chamber" yX0_renew yX0_renew) ∈ TB := tb_of (List.mem_of_getElem? (i := 427) (by decide +kernel)) (by decide +kernel)
theorem w_428 : (Cond.code yX0_renew cX0_renew (3 : Nat) (Option.none : Option FieldType)) ∈ TB := tb_of (List.mem_of_getElem? (i := 428) (by decide +kernel)) (by decide +kernel)
theorem w_429 : (Cond.methodLink "RamStationLaw" (28 : Nat) yX8_setInflow) ∈ TB := tb_of (List.mem_of_getElem? (i := 429) (by decide +kernel)) (by decide +kernel)
theorem w_430 : (Cond.instanceMethod yX8_setInflow) ∈ TB := tb_of (List.mem_of_getElem? (i := 430) (by decide +kernel)) (by decide +kernel)
theorem w_431 : (Cond.selects "RamStation" yX8_setInflow yX8_setInflow) ∈ TB := tb_of (List.mem_of_getElem? (i := 431) (by decide +kernel)) (by decide +kernel)
theorem w_432 : (Cond.code yX8_setInflow cX8_setInflow (3 : Nat) (Option.some FieldType.int)) ∈ TB := tb_of (List.mem_of_getElem? (i := 432) (by decide +kernel)) (by decide +kernel)
theorem w_433 : (Cond.methodLink "RamStationLaw" (33 : Nat) yX8_start) ∈ TB := tb_of (List.mem_of_getElem? (i := 433) (by decide +kernel)) (by decide +kernel)
theorem w_434 : (Cond.instanceMethod yX8_start) ∈ TB := tb_of (List.mem_of_getElem? (i := 434) (by decide +kernel)) (by decide +kernel)
theorem w_435 : (Cond.selects "RamStation" yX8_start yX8_start) ∈ TB := tb_of (List.mem_of_getElem? (i := 435) (by decide +kernel)) (by decide +kernel)
theorem w_436 : (Cond.code yX8_start cX8_start (3 : Nat) (Option.some FieldType.int)) ∈ TB := tb_of (List.mem_of_getElem? (i := 436) (by decide +kernel)) (by decide +kernel)
theorem w_437 : (Cond.methodLink "RamStation" (112 : Nat) yX7_runningPumps) ∈ TB := tb_of (List.mem_of_getElem? (i := 437) (by decide +kernel)) (by decide +kernel)
theorem w_438 : (Cond.instanceMethod yX7_runningPumps) ∈ TB := tb_of (List.mem_of_getElem? (i := 438) (by decide +kernel)) (by decide +kernel)
theorem w_439 : (Cond.selects "RamStation$State" yX7_runningPumps yX7_runningPumps) ∈ TB := tb_of (List.mem_of_getElem? (i := 439) (by decide +kernel)) (by decide +kernel)
theorem w_440 : (Cond.code yX7_runningPumps cX7_runningPumps (3 : Nat) (Option.some FieldType.int)) ∈ TB := tb_of (List.mem_of_getElem? (i := 440) (by decide +kernel)) (by decide +kernel)
theorem w_441 : (Cond.methodLink "RamStationLaw" (37 : Nat) yX8_stop) ∈ TB := tb_of (List.mem_of_getElem? (i := 441) (by decide +kernel)) (by decide +kernel)
theorem w_442 : (Cond.instanceMethod yX8_stop) ∈ TB := tb_of (List.mem_of_getElem? (i := 442) (by decide +kernel)) (by decide +kernel)
theorem w_443 : (Cond.selects "RamStation" yX8_stop yX8_stop) ∈ TB := tb_of (List.mem_of_getElem? (i := 443) (by decide +kernel)) (by decide +kernel)
theorem w_444 : (Cond.code yX8_stop cX8_stop (3 : Nat) (Option.some FieldType.int)) ∈ TB := tb_of (List.mem_of_getElem? (i := 444) (by decide +kernel)) (by decide +kernel)
theorem w_445 : (Cond.methodLink "RamStation" (116 : Nat) yX4_rest) ∈ TB := tb_of (List.mem_of_getElem? (i := 445) (by decide +kernel)) (by decide +kernel)
theorem w_446 : (Cond.instanceMethod yX4_rest) ∈ TB := tb_of (List.mem_of_getElem? (i := 446) (by decide +kernel)) (by decide +kernel)
theorem w_447 : (Cond.selects "RamStation$Pump" yX4_rest yX4_rest) ∈ TB := tb_of (List.mem_of_getElem? (i := 447) (by decide +kernel)) (by decide +kernel)
theorem w_448 : (Cond.code yX4_rest cX4_rest (1 : Nat) (Option.none : Option FieldType)) ∈ TB := tb_of (List.mem_of_getElem? (i := 448) (by decide +kernel)) (by decide +kernel)
theorem w_449 : (Cond.methodLink "RamStationLaw" (41 : Nat) yX8_emptyTank) ∈ TB := tb_of (List.mem_of_getElem? (i := 449) (by decide +kernel)) (by decide +kernel)
theorem w_450 : (Cond.instanceMethod yX8_emptyTank) ∈ TB := tb_of (List.mem_of_getElem? (i := 450) (by decide +kernel)) (by decide +kernel)
theorem w_451 : (Cond.selects "RamStation" yX8_emptyTank yX8_emptyTank) ∈ TB := tb_of (List.mem_of_getElem? (i := 451) (by decide +kernel)) (by decide +kernel)
theorem w_452 : (Cond.code yX8_emptyTank cX8_emptyTank (4 : Nat) (Option.some FieldType.int)) ∈ TB := tb_of (List.mem_of_getElem? (i := 452) (by decide +kernel)) (by decide +kernel)
theorem w_453 : (Cond.methodLink "RamStationLaw" (45 : Nat) yX8_pass) ∈ TB := tb_of (List.mem_of_getElem? (i := 453) (by decide +kernel)) (by decide +kernel)
theorem w_454 : (Cond.instanceMethod yX8_pass) ∈ TB := tb_of (List.mem_of_getElem? (i := 454) (by decide +kernel)) (by decide +kernel)
theorem w_455 : (Cond.selects "RamStation" yX8_pass yX8_pass) ∈ TB := tb_of (List.mem_of_getElem? (i := 455) (by decide +kernel)) (by decide +kernel)
theorem w_456 : (Cond.code yX8_pass cX8_pass (4 : Nat) (Option.some FieldType.int)) ∈ TB := tb_of (List.mem_of_getElem? (i := 456) (by decide +kernel)) (by decide +kernel)
theorem w_457 : (Cond.methodLink "RamStation" (122 : Nat) yX8_tickStation) ∈ TB := tb_of (List.mem_of_getElem? (i := 457) (by decide +kernel)) (by decide +kernel)
theorem w_459 : (Cond.instanceMethod yX8_tickStation) ∈ TB := tb_of (List.mem_of_getElem? (i := 459) (by decide +kernel)) (by decide +kernel)
theorem w_460 : (Cond.code yX8_tickStation cX8_tickStation (4 : Nat) (Option.some FieldType.int)) ∈ TB := tb_of (List.mem_of_getElem? (i := 460) (by decide +kernel)) (by decide +kernel)
theorem w_461 : (Cond.methodLink "RamStation" (262 : Nat) yX4_tick) ∈ TB := tb_of (List.mem_of_getElem? (i := 461) (by decide +kernel)) (by decide +kernel)
theorem w_462 : (Cond.instanceMethod yX4_tick) ∈ TB := tb_of (List.mem_of_getElem? (i := 462) (by decide +kernel)) (by decide +kernel)
theorem w_463 : (Cond.selects "RamStation$Pump" yX4_tick yX4_tick) ∈ TB := tb_of (List.mem_of_getElem? (i := 463) (by decide +kernel)) (by decide +kernel)
theorem w_464 : (Cond.code yX4_tick cX4_tick (5 : Nat) (Option.none : Option FieldType)) ∈ TB := tb_of (List.mem_of_getElem? (i := 464) (by decide +kernel)) (by decide +kernel)
theorem w_465 : (Cond.methodLink "RamStation$Pump" (88 : Nat) yX5_clear) ∈ TB := tb_of (List.mem_of_getElem? (i := 465) (by decide +kernel)) (by decide +kernel)
theorem w_466 : (Cond.instanceMethod yX5_clear) ∈ TB := tb_of (List.mem_of_getElem? (i := 466) (by decide +kernel)) (by decide +kernel)
theorem w_467 : (Cond.selects "RamStation$Report" yX5_clear yX5_clear) ∈ TB := tb_of (List.mem_of_getElem? (i := 467) (by decide +kernel)) (by decide +kernel)
theorem w_468 : (Cond.code yX5_clear cX5_clear (1 : Nat) (Option.none : Option FieldType)) ∈ TB := tb_of (List.mem_of_getElem? (i := 468) (by decide +kernel)) (by decide +kernel)
theorem w_469 : (Cond.methodLink "RamStation$Pump" (93 : Nat) yX4_rest) ∈ TB := tb_of (List.mem_of_getElem? (i := 469) (by decide +kernel)) (by decide +kernel)
theorem w_470 : (Cond.methodLink "RamStation$Pump" (105 : Nat) yX4_pushIntoChamber) ∈ TB := tb_of (List.mem_of_getElem? (i := 470) (by decide +kernel)) (by decide +kernel)
theorem w_471 : (Cond.instanceMethod yX4_pushIntoChamber) ∈ TB := tb_of (List.mem_of_getElem? (i := 471) (by decide +kernel)) (by decide +kernel)
theorem w_472 : (Cond.selects "RamStation$Pump" yX4_pushIntoChamber yX4_pushIntoChamber) ∈ TB := tb_of (List.mem_of_getElem? (i := 472) (by decide +kernel)) (by decide +kernel)
theorem w_473 : (Cond.code yX4_pushIntoChamber cX4_pushIntoChamber (5 : Nat) (Option.none : Option FieldType)) ∈ TB := tb_of (List.mem_of_getElem? (i := 473) (by decide +kernel)) (by decide +kernel)
theorem w_474 : (Cond.methodLink "RamStation$Pump" (158 : Nat) yX0_take) ∈ TB := tb_of (List.mem_of_getElem? (i := 474) (by decide +kernel)) (by decide +kernel)
theorem w_475 : (Cond.instanceMethod yX0_take) ∈ TB := tb_of (List.mem_of_getElem? (i := 475) (by decide +kernel)) (by decide +kernel)
theorem w_476 : (Cond.selects "RamStation$Chamber" yX0_take yX0_take) ∈ TB := tb_of (List.mem_of_getElem? (i := 476) (by decide +kernel)) (by decide +kernel)
theorem w_477 : (Cond.code yX0_take cX0_take (3 : Nat) (Option.some FieldType.int)) ∈ TB := tb_of (List.mem_of_getElem? (i := 477) (by decide +kernel)) (by decide +kernel)
theorem w_478 : (Cond.methodLink "RamStation$Chamber" (32 : Nat) ({ cls := "java/lang/Math", name := "min", desc := "(II)I" } : Jvm.MethodName)) ∈ TB := tb_of (List.mem_of_getElem? (i := 478) (by decide +kernel)) (by decide +kernel)
theorem w_479 : (Cond.methodLink "RamStation$Pump" (164 : Nat) yX0_head) ∈ TB := tb_of (List.mem_of_getElem? (i := 479) (by decide +kernel)) (by decide +kernel)
theorem w_480 : (Cond.instanceMethod yX0_head) ∈ TB := tb_of (List.mem_of_getElem? (i := 480) (by decide +kernel)) (by decide +kernel)
theorem w_481 : (Cond.selects "RamStation$Chamber" yX0_head yX0_head) ∈ TB := tb_of (List.mem_of_getElem? (i := 481) (by decide +kernel)) (by decide +kernel)
theorem w_482 : (Cond.code yX0_head cX0_head (2 : Nat) (Option.some FieldType.int)) ∈ TB := tb_of (List.mem_of_getElem? (i := 482) (by decide +kernel)) (by decide +kernel)
theorem w_483 : (Cond.methodLink "RamStation$Chamber" (26 : Nat) ({ cls := "java/lang/Math", name := "max", desc := "(II)I" } : Jvm.MethodName)) ∈ TB := tb_of (List.mem_of_getElem? (i := 483) (by decide +kernel)) (by decide +kernel)
theorem w_484 : (Cond.methodLink "RamStation$Pump" (134 : Nat) ({ cls := "java/lang/Math", name := "max", desc := "(II)I" } : Jvm.MethodName)) ∈ TB := tb_of (List.mem_of_getElem? (i := 484) (by decide +kernel)) (by decide +kernel)
theorem w_485 : (Cond.methodLink "RamStation$Pump" (129 : Nat) yX4_speedFrom) ∈ TB := tb_of (List.mem_of_getElem? (i := 485) (by decide +kernel)) (by decide +kernel)
theorem w_486 : (Cond.instanceMethod yX4_speedFrom) ∈ TB := tb_of (List.mem_of_getElem? (i := 486) (by decide +kernel)) (by decide +kernel)
theorem w_487 : (Cond.selects "RamStation$Pump" yX4_speedFrom yX4_speedFrom) ∈ TB := tb_of (List.mem_of_getElem? (i := 487) (by decide +kernel)) (by decide +kernel)
theorem w_488 : (Cond.code yX4_speedFrom cX4_speedFrom (2 : Nat) (Option.some FieldType.int)) ∈ TB := tb_of (List.mem_of_getElem? (i := 488) (by decide +kernel)) (by decide +kernel)
theorem w_489 : (Cond.methodLink "RamStation$Pump" (109 : Nat) yX4_gainSpeed) ∈ TB := tb_of (List.mem_of_getElem? (i := 489) (by decide +kernel)) (by decide +kernel)
theorem w_490 : (Cond.instanceMethod yX4_gainSpeed) ∈ TB := tb_of (List.mem_of_getElem? (i := 490) (by decide +kernel)) (by decide +kernel)
theorem w_491 : (Cond.selects "RamStation$Pump" yX4_gainSpeed yX4_gainSpeed) ∈ TB := tb_of (List.mem_of_getElem? (i := 491) (by decide +kernel)) (by decide +kernel)
theorem w_492 : (Cond.code yX4_gainSpeed cX4_gainSpeed (3 : Nat) (Option.none : Option FieldType)) ∈ TB := tb_of (List.mem_of_getElem? (i := 492) (by decide +kernel)) (by decide +kernel)
theorem w_493 : (Cond.constant "RamStation$Pump" (133 : Nat) (100000 : Int32)) ∈ TB := tb_of (List.mem_of_getElem? (i := 493) (by decide +kernel)) (by decide +kernel)
theorem w_494 : (Cond.methodLink "RamStation$Pump" (140 : Nat) ({ cls := "java/lang/Math", name := "min", desc := "(II)I" } : Jvm.MethodName)) ∈ TB := tb_of (List.mem_of_getElem? (i := 494) (by decide +kernel)) (by decide +kernel)
theorem w_495 : (Cond.methodLink "RamStation$Pump" (112 : Nat) yX4_slamRuleHolds) ∈ TB := tb_of (List.mem_of_getElem? (i := 495) (by decide +kernel)) (by decide +kernel)
theorem w_496 : (Cond.instanceMethod yX4_slamRuleHolds) ∈ TB := tb_of (List.mem_of_getElem? (i := 496) (by decide +kernel)) (by decide +kernel)
theorem w_497 : (Cond.selects "RamStation$Pump" yX4_slamRuleHolds yX4_slamRuleHolds) ∈ TB := tb_of (List.mem_of_getElem? (i := 497) (by decide +kernel)) (by decide +kernel)
theorem w_498 : (Cond.code yX4_slamRuleHolds cX4_slamRuleHolds (1 : Nat) (Option.some FieldType.boolean)) ∈ TB := tb_of (List.mem_of_getElem? (i := 498) (by decide +kernel)) (by decide +kernel)
theorem w_499 : (Cond.methodLink "RamStation$Pump" (116 : Nat) yX4_slam) ∈ TB := tb_of (List.mem_of_getElem? (i := 499) (by decide +kernel)) (by decide +kernel)
theorem w_500 : (Cond.instanceMethod yX4_slam) ∈ TB := tb_of (List.mem_of_getElem? (i := 500) (by decide +kernel)) (by decide +kernel)
theorem w_501 : (Cond.selects "RamStation$Pump" yX4_slam yX4_slam) ∈ TB := tb_of (List.mem_of_getElem? (i := 501) (by decide +kernel)) (by decide +kernel)
theorem w_502 : (Cond.code yX4_slam cX4_slam (4 : Nat) (Option.none : Option FieldType)) ∈ TB := tb_of (List.mem_of_getElem? (i := 502) (by decide +kernel)) (by decide +kernel)
theorem w_503 : (Cond.methodLink "RamStation$Pump" (123 : Nat) yX6_add) ∈ TB := tb_of (List.mem_of_getElem? (i := 503) (by decide +kernel)) (by decide +kernel)
theorem w_504 : (Cond.instanceMethod yX6_add) ∈ TB := tb_of (List.mem_of_getElem? (i := 504) (by decide +kernel)) (by decide +kernel)
theorem w_505 : (Cond.selects "RamStation$Ring" yX6_add yX6_add) ∈ TB := tb_of (List.mem_of_getElem? (i := 505) (by decide +kernel)) (by decide +kernel)
theorem w_506 : (Cond.code yX6_add cX6_add (2 : Nat) (Option.none : Option FieldType)) ∈ TB := tb_of (List.mem_of_getElem? (i := 506) (by decide +kernel)) (by decide +kernel)
theorem w_507 : (Cond.methodLink "RamStation$Pump" (152 : Nat) yX0_changeAir) ∈ TB := tb_of (List.mem_of_getElem? (i := 507) (by decide +kernel)) (by decide +kernel)
theorem w_508 : (Cond.instanceMethod yX0_changeAir) ∈ TB := tb_of (List.mem_of_getElem? (i := 508) (by decide +kernel)) (by decide +kernel)
theorem w_509 : (Cond.selects "RamStation$Chamber" yX0_changeAir yX0_changeAir) ∈ TB := tb_of (List.mem_of_getElem? (i := 509) (by decide +kernel)) (by decide +kernel)
theorem w_510 : (Cond.code yX0_changeAir cX0_changeAir (1 : Nat) (Option.none : Option FieldType)) ∈ TB := tb_of (List.mem_of_getElem? (i := 510) (by decide +kernel)) (by decide +kernel)
theorem w_511 : (Cond.methodLink "RamStation$Pump" (119 : Nat) yX4_deliver) ∈ TB := tb_of (List.mem_of_getElem? (i := 511) (by decide +kernel)) (by decide +kernel)
theorem w_512 : (Cond.instanceMethod yX4_deliver) ∈ TB := tb_of (List.mem_of_getElem? (i := 512) (by decide +kernel)) (by decide +kernel)
theorem w_513 : (Cond.selects "RamStation$Pump" yX4_deliver yX4_deliver) ∈ TB := tb_of (List.mem_of_getElem? (i := 513) (by decide +kernel)) (by decide +kernel)
theorem w_514 : (Cond.code yX4_deliver cX4_deliver (5 : Nat) (Option.none : Option FieldType)) ∈ TB := tb_of (List.mem_of_getElem? (i := 514) (by decide +kernel)) (by decide +kernel)
theorem w_515 : (Cond.methodLink "RamStation" (269 : Nat) yX8_noteIncidents) ∈ TB := tb_of (List.mem_of_getElem? (i := 515) (by decide +kernel)) (by decide +kernel)
theorem w_517 : (Cond.instanceMethod yX8_noteIncidents) ∈ TB := tb_of (List.mem_of_getElem? (i := 517) (by decide +kernel)) (by decide +kernel)
theorem w_518 : (Cond.code yX8_noteIncidents cX8_noteIncidents (2 : Nat) (Option.none : Option FieldType)) ∈ TB := tb_of (List.mem_of_getElem? (i := 518) (by decide +kernel)) (by decide +kernel)
theorem w_519 : (Cond.methodLink "RamStation" (275 : Nat) yX3_add) ∈ TB := tb_of (List.mem_of_getElem? (i := 519) (by decide +kernel)) (by decide +kernel)
theorem w_520 : (Cond.instanceMethod yX3_add) ∈ TB := tb_of (List.mem_of_getElem? (i := 520) (by decide +kernel)) (by decide +kernel)
theorem w_521 : (Cond.selects "RamStation$IncidentLog" yX3_add yX3_add) ∈ TB := tb_of (List.mem_of_getElem? (i := 521) (by decide +kernel)) (by decide +kernel)
theorem w_522 : (Cond.code yX3_add cX3_add (4 : Nat) (Option.none : Option FieldType)) ∈ TB := tb_of (List.mem_of_getElem? (i := 522) (by decide +kernel)) (by decide +kernel)
theorem w_523 : (Cond.methodLink "RamStation$IncidentLog" (30 : Nat) yX6_add) ∈ TB := tb_of (List.mem_of_getElem? (i := 523) (by decide +kernel)) (by decide +kernel)
theorem w_524 : (Cond.methodLink "RamStationLaw" (49 : Nat) yX8_undo) ∈ TB := tb_of (List.mem_of_getElem? (i := 524) (by decide +kernel)) (by decide +kernel)
theorem w_525 : (Cond.instanceMethod yX8_undo) ∈ TB := tb_of (List.mem_of_getElem? (i := 525) (by decide +kernel)) (by decide +kernel)
theorem w_526 : (Cond.selects "RamStation" yX8_undo yX8_undo) ∈ TB := tb_of (List.mem_of_getElem? (i := 526) (by decide +kernel)) (by decide +kernel)
theorem w_527 : (Cond.code yX8_undo cX8_undo (1 : Nat) (Option.some FieldType.int)) ∈ TB := tb_of (List.mem_of_getElem? (i := 527) (by decide +kernel)) (by decide +kernel)
theorem w_528 : (Cond.methodLink "RamStationLaw" (54 : Nat) yX8_type) ∈ TB := tb_of (List.mem_of_getElem? (i := 528) (by decide +kernel)) (by decide +kernel)
theorem w_529 : (Cond.instanceMethod yX8_type) ∈ TB := tb_of (List.mem_of_getElem? (i := 529) (by decide +kernel)) (by decide +kernel)
theorem w_530 : (Cond.selects "RamStation" yX8_type yX8_type) ∈ TB := tb_of (List.mem_of_getElem? (i := 530) (by decide +kernel)) (by decide +kernel)
theorem w_531 : (Cond.code yX8_type cX8_type (2 : Nat) (Option.some FieldType.int)) ∈ TB := tb_of (List.mem_of_getElem? (i := 531) (by decide +kernel)) (by decide +kernel)
theorem w_532 : (Cond.methodLink "RamStationLaw" (58 : Nat) yX8_clearText) ∈ TB := tb_of (List.mem_of_getElem? (i := 532) (by decide +kernel)) (by decide +kernel)
theorem w_533 : (Cond.instanceMethod yX8_clearText) ∈ TB := tb_of (List.mem_of_getElem? (i := 533) (by decide +kernel)) (by decide +kernel)
theorem w_534 : (Cond.selects "RamStation" yX8_clearText yX8_clearText) ∈ TB := tb_of (List.mem_of_getElem? (i := 534) (by decide +kernel)) (by decide +kernel)
theorem w_535 : (Cond.code yX8_clearText cX8_clearText (2 : Nat) (Option.some FieldType.int)) ∈ TB := tb_of (List.mem_of_getElem? (i := 535) (by decide +kernel)) (by decide +kernel)
theorem w_536 : (Cond.methodLink "RamStationLaw" (62 : Nat) yX8_syntaxError) ∈ TB := tb_of (List.mem_of_getElem? (i := 536) (by decide +kernel)) (by decide +kernel)
theorem w_537 : (Cond.instanceMethod yX8_syntaxError) ∈ TB := tb_of (List.mem_of_getElem? (i := 537) (by decide +kernel)) (by decide +kernel)
theorem w_538 : (Cond.selects "RamStation" yX8_syntaxError yX8_syntaxError) ∈ TB := tb_of (List.mem_of_getElem? (i := 538) (by decide +kernel)) (by decide +kernel)
theorem w_539 : (Cond.code yX8_syntaxError cX8_syntaxError (1 : Nat) (Option.some FieldType.int)) ∈ TB := tb_of (List.mem_of_getElem? (i := 539) (by decide +kernel)) (by decide +kernel)
theorem w_540 : (Cond.methodLink "RamStation" (142 : Nat) yX1_firstError) ∈ TB := tb_of (List.mem_of_getElem? (i := 540) (by decide +kernel)) (by decide +kernel)
theorem w_541 : (Cond.instanceMethod yX1_firstError) ∈ TB := tb_of (List.mem_of_getElem? (i := 541) (by decide +kernel)) (by decide +kernel)
theorem w_542 : (Cond.selects "RamStation$CommandText" yX1_firstError yX1_firstError) ∈ TB := tb_of (List.mem_of_getElem? (i := 542) (by decide +kernel)) (by decide +kernel)
theorem w_543 : (Cond.code yX1_firstError cX1_firstError (3 : Nat) (Option.some FieldType.int)) ∈ TB := tb_of (List.mem_of_getElem? (i := 543) (by decide +kernel)) (by decide +kernel)
theorem w_544 : (Cond.methodLink "RamStation$CommandText" (23 : Nat) yX1_signAt) ∈ TB := tb_of (List.mem_of_getElem? (i := 544) (by decide +kernel)) (by decide +kernel)
theorem w_545 : (Cond.instanceMethod yX1_signAt) ∈ TB := tb_of (List.mem_of_getElem? (i := 545) (by decide +kernel)) (by decide +kernel)
theorem w_546 : (Cond.selects "RamStation$CommandText" yX1_signAt yX1_signAt) ∈ TB := tb_of (List.mem_of_getElem? (i := 546) (by decide +kernel)) (by decide +kernel)
theorem w_547 : (Cond.code yX1_signAt cX1_signAt (2 : Nat) (Option.some FieldType.char)) ∈ TB := tb_of (List.mem_of_getElem? (i := 547) (by decide +kernel)) (by decide +kernel)
theorem w_548 : (Cond.methodLinkNest "RamStation$CommandText" (19 : Nat) yX8_outside "RamStation") ∈ lw_tbl := List.mem_of_getElem? (i := 548) (by decide +kernel)
theorem w_549 : (Cond.methodLink "RamStation$CommandText" (31 : Nat) yX1_placeAfter) ∈ TB := tb_of (List.mem_of_getElem? (i := 549) (by decide +kernel)) (by decide +kernel)
theorem w_550 : (Cond.static yX1_placeAfter) ∈ TB := tb_of (List.mem_of_getElem? (i := 550) (by decide +kernel)) (by decide +kernel)
theorem w_551 : (Cond.code yX1_placeAfter cX1_placeAfter (2 : Nat) (Option.some FieldType.int)) ∈ TB := tb_of (List.mem_of_getElem? (i := 551) (by decide +kernel)) (by decide +kernel)
theorem w_552 : (Cond.methodLink "RamStation$CommandText" (35 : Nat) yX1_mayEnd) ∈ TB := tb_of (List.mem_of_getElem? (i := 552) (by decide +kernel)) (by decide +kernel)
theorem w_553 : (Cond.static yX1_mayEnd) ∈ TB := tb_of (List.mem_of_getElem? (i := 553) (by decide +kernel)) (by decide +kernel)
theorem w_554 : (Cond.code yX1_mayEnd cX1_mayEnd (1 : Nat) (Option.some FieldType.boolean)) ∈ TB := tb_of (List.mem_of_getElem? (i := 554) (by decide +kernel)) (by decide +kernel)
theorem w_555 : (Cond.methodLink "RamStation$CommandText" (39 : Nat) yX1_placeAfterLetter) ∈ TB := tb_of (List.mem_of_getElem? (i := 555) (by decide +kernel)) (by decide +kernel)
theorem w_556 : (Cond.static yX1_placeAfterLetter) ∈ TB := tb_of (List.mem_of_getElem? (i := 556) (by decide +kernel)) (by decide +kernel)
theorem w_557 : (Cond.code yX1_placeAfterLetter cX1_placeAfterLetter (1 : Nat) (Option.some FieldType.int)) ∈ TB := tb_of (List.mem_of_getElem? (i := 557) (by decide +kernel)) (by decide +kernel)
theorem w_558 : (Cond.methodLink "RamStation$CommandText" (27 : Nat) yX1_isDigit) ∈ TB := tb_of (List.mem_of_getElem? (i := 558) (by decide +kernel)) (by decide +kernel)
theorem w_559 : (Cond.static yX1_isDigit) ∈ TB := tb_of (List.mem_of_getElem? (i := 559) (by decide +kernel)) (by decide +kernel)
theorem w_560 : (Cond.code yX1_isDigit cX1_isDigit (1 : Nat) (Option.some FieldType.boolean)) ∈ TB := tb_of (List.mem_of_getElem? (i := 560) (by decide +kernel)) (by decide +kernel)
theorem w_561 : (Cond.methodLink "RamStation$CommandText" (43 : Nat) yX1_placeAfterDigit) ∈ TB := tb_of (List.mem_of_getElem? (i := 561) (by decide +kernel)) (by decide +kernel)
theorem w_562 : (Cond.static yX1_placeAfterDigit) ∈ TB := tb_of (List.mem_of_getElem? (i := 562) (by decide +kernel)) (by decide +kernel)
theorem w_563 : (Cond.code yX1_placeAfterDigit cX1_placeAfterDigit (1 : Nat) (Option.some FieldType.int)) ∈ TB := tb_of (List.mem_of_getElem? (i := 563) (by decide +kernel)) (by decide +kernel)
theorem w_564 : (Cond.methodLink "RamStationLaw" (66 : Nat) yX8_execute) ∈ TB := tb_of (List.mem_of_getElem? (i := 564) (by decide +kernel)) (by decide +kernel)
theorem w_565 : (Cond.instanceMethod yX8_execute) ∈ TB := tb_of (List.mem_of_getElem? (i := 565) (by decide +kernel)) (by decide +kernel)
theorem w_566 : (Cond.selects "RamStation" yX8_execute yX8_execute) ∈ TB := tb_of (List.mem_of_getElem? (i := 566) (by decide +kernel)) (by decide +kernel)
theorem w_567 : (Cond.code yX8_execute cX8_execute (5 : Nat) (Option.some FieldType.int)) ∈ TB := tb_of (List.mem_of_getElem? (i := 567) (by decide +kernel)) (by decide +kernel)
theorem w_568 : (Cond.methodLink "RamStation" (148 : Nat) yX1_commandStartsAt) ∈ TB := tb_of (List.mem_of_getElem? (i := 568) (by decide +kernel)) (by decide +kernel)
theorem w_569 : (Cond.instanceMethod yX1_commandStartsAt) ∈ TB := tb_of (List.mem_of_getElem? (i := 569) (by decide +kernel)) (by decide +kernel)
theorem w_570 : (Cond.selects "RamStation$CommandText" yX1_commandStartsAt yX1_commandStartsAt) ∈ TB := tb_of (List.mem_of_getElem? (i := 570) (by decide +kernel)) (by decide +kernel)
theorem w_571 : (Cond.code yX1_commandStartsAt cX1_commandStartsAt (2 : Nat) (Option.some FieldType.boolean)) ∈ TB := tb_of (List.mem_of_getElem? (i := 571) (by decide +kernel)) (by decide +kernel)
theorem w_572 : (Cond.methodLink "RamStation" (152 : Nat) yX8_perform) ∈ TB := tb_of (List.mem_of_getElem? (i := 572) (by decide +kernel)) (by decide +kernel)
theorem w_574 : (Cond.instanceMethod yX8_perform) ∈ TB := tb_of (List.mem_of_getElem? (i := 574) (by decide +kernel)) (by decide +kernel)
theorem w_575 : (Cond.code yX8_perform cX8_perform (3 : Nat) (Option.some FieldType.int)) ∈ TB := tb_of (List.mem_of_getElem? (i := 575) (by decide +kernel)) (by decide +kernel)
theorem w_576 : (Cond.methodLink "RamStation" (282 : Nat) yX1_numberAt) ∈ TB := tb_of (List.mem_of_getElem? (i := 576) (by decide +kernel)) (by decide +kernel)
theorem w_577 : (Cond.instanceMethod yX1_numberAt) ∈ TB := tb_of (List.mem_of_getElem? (i := 577) (by decide +kernel)) (by decide +kernel)
theorem w_578 : (Cond.selects "RamStation$CommandText" yX1_numberAt yX1_numberAt) ∈ TB := tb_of (List.mem_of_getElem? (i := 578) (by decide +kernel)) (by decide +kernel)
theorem w_579 : (Cond.code yX1_numberAt cX1_numberAt (4 : Nat) (Option.some FieldType.int)) ∈ TB := tb_of (List.mem_of_getElem? (i := 579) (by decide +kernel)) (by decide +kernel)
theorem w_580 : (Cond.methodLink "RamStation" (285 : Nat) yX1_signAt) ∈ TB := tb_of (List.mem_of_getElem? (i := 580) (by decide +kernel)) (by decide +kernel)
theorem w_581 : (Cond.methodLink "RamStation" (289 : Nat) yX8_start) ∈ TB := tb_of (List.mem_of_getElem? (i := 581) (by decide +kernel)) (by decide +kernel)
theorem w_582 : (Cond.methodLink "RamStation" (292 : Nat) yX8_stop) ∈ TB := tb_of (List.mem_of_getElem? (i := 582) (by decide +kernel)) (by decide +kernel)
theorem w_583 : (Cond.methodLink "RamStation" (295 : Nat) yX8_emptyTank) ∈ TB := tb_of (List.mem_of_getElem? (i := 583) (by decide +kernel)) (by decide +kernel)
theorem w_584 : (Cond.methodLink "RamStation" (298 : Nat) yX8_valveKindOf) ∈ TB := tb_of (List.mem_of_getElem? (i := 584) (by decide +kernel)) (by decide +kernel)
theorem w_586 : (Cond.instanceMethod yX8_valveKindOf) ∈ TB := tb_of (List.mem_of_getElem? (i := 586) (by decide +kernel)) (by decide +kernel)
theorem w_587 : (Cond.code yX8_valveKindOf cX8_valveKindOf (3 : Nat) (Option.some FieldType.int)) ∈ TB := tb_of (List.mem_of_getElem? (i := 587) (by decide +kernel)) (by decide +kernel)
theorem w_588 : (Cond.methodLink "RamStation" (301 : Nat) yX8_setValve) ∈ TB := tb_of (List.mem_of_getElem? (i := 588) (by decide +kernel)) (by decide +kernel)
theorem w_589 : (Cond.methodLink "RamStation" (305 : Nat) yX8_setInflow) ∈ TB := tb_of (List.mem_of_getElem? (i := 589) (by decide +kernel)) (by decide +kernel)
theorem w_590 : (Cond.methodLink "RamStation" (308 : Nat) yX8_pass) ∈ TB := tb_of (List.mem_of_getElem? (i := 590) (by decide +kernel)) (by decide +kernel)
theorem w_591 : (Cond.methodLink "RamStationLaw" (70 : Nat) yX8_failure) ∈ TB := tb_of (List.mem_of_getElem? (i := 591) (by decide +kernel)) (by decide +kernel)
theorem w_592 : (Cond.instanceMethod yX8_failure) ∈ TB := tb_of (List.mem_of_getElem? (i := 592) (by decide +kernel)) (by decide +kernel)
theorem w_593 : (Cond.selects "RamStation" yX8_failure yX8_failure) ∈ TB := tb_of (List.mem_of_getElem? (i := 593) (by decide +kernel)) (by decide +kernel)
theorem w_594 : (Cond.code yX8_failure cX8_failure (1 : Nat) (Option.some FieldType.int)) ∈ TB := tb_of (List.mem_of_getElem? (i := 594) (by decide +kernel)) (by decide +kernel)
theorem w_595 : (Cond.methodLink "RamStationLaw" (74 : Nat) yX8_time) ∈ TB := tb_of (List.mem_of_getElem? (i := 595) (by decide +kernel)) (by decide +kernel)
theorem w_596 : (Cond.instanceMethod yX8_time) ∈ TB := tb_of (List.mem_of_getElem? (i := 596) (by decide +kernel)) (by decide +kernel)
theorem w_597 : (Cond.selects "RamStation" yX8_time yX8_time) ∈ TB := tb_of (List.mem_of_getElem? (i := 597) (by decide +kernel)) (by decide +kernel)
theorem w_598 : (Cond.code yX8_time cX8_time (1 : Nat) (Option.some FieldType.int)) ∈ TB := tb_of (List.mem_of_getElem? (i := 598) (by decide +kernel)) (by decide +kernel)
theorem w_599 : (Cond.methodLink "RamStationLaw" (78 : Nat) yX8_basin) ∈ TB := tb_of (List.mem_of_getElem? (i := 599) (by decide +kernel)) (by decide +kernel)
theorem w_600 : (Cond.instanceMethod yX8_basin) ∈ TB := tb_of (List.mem_of_getElem? (i := 600) (by decide +kernel)) (by decide +kernel)
theorem w_601 : (Cond.selects "RamStation" yX8_basin yX8_basin) ∈ TB := tb_of (List.mem_of_getElem? (i := 601) (by decide +kernel)) (by decide +kernel)
theorem w_602 : (Cond.code yX8_basin cX8_basin (1 : Nat) (Option.some FieldType.int)) ∈ TB := tb_of (List.mem_of_getElem? (i := 602) (by decide +kernel)) (by decide +kernel)
theorem w_603 : (Cond.methodLink "RamStationLaw" (82 : Nat) yX8_spilled) ∈ TB := tb_of (List.mem_of_getElem? (i := 603) (by decide +kernel)) (by decide +kernel)
theorem w_604 : (Cond.instanceMethod yX8_spilled) ∈ TB := tb_of (List.mem_of_getElem? (i := 604) (by decide +kernel)) (by decide +kernel)
theorem w_605 : (Cond.selects "RamStation" yX8_spilled yX8_spilled) ∈ TB := tb_of (List.mem_of_getElem? (i := 605) (by decide +kernel)) (by decide +kernel)
theorem w_606 : (Cond.code yX8_spilled cX8_spilled (1 : Nat) (Option.some FieldType.int)) ∈ TB := tb_of (List.mem_of_getElem? (i := 606) (by decide +kernel)) (by decide +kernel)
theorem w_607 : (Cond.methodLink "RamStationLaw" (86 : Nat) yX8_pumps) ∈ TB := tb_of (List.mem_of_getElem? (i := 607) (by decide +kernel)) (by decide +kernel)
theorem w_608 : (Cond.instanceMethod yX8_pumps) ∈ TB := tb_of (List.mem_of_getElem? (i := 608) (by decide +kernel)) (by decide +kernel)
theorem w_609 : (Cond.selects "RamStation" yX8_pumps yX8_pumps) ∈ TB := tb_of (List.mem_of_getElem? (i := 609) (by decide +kernel)) (by decide +kernel)
theorem w_610 : (Cond.code yX8_pumps cX8_pumps (1 : Nat) (Option.some FieldType.int)) ∈ TB := tb_of (List.mem_of_getElem? (i := 610) (by decide +kernel)) (by decide +kernel)
theorem w_611 : (Cond.methodLink "RamStationLaw" (90 : Nat) yX8_incidents) ∈ TB := tb_of (List.mem_of_getElem? (i := 611) (by decide +kernel)) (by decide +kernel)
theorem w_612 : (Cond.instanceMethod yX8_incidents) ∈ TB := tb_of (List.mem_of_getElem? (i := 612) (by decide +kernel)) (by decide +kernel)
theorem w_613 : (Cond.selects "RamStation" yX8_incidents yX8_incidents) ∈ TB := tb_of (List.mem_of_getElem? (i := 613) (by decide +kernel)) (by decide +kernel)
theorem w_614 : (Cond.code yX8_incidents cX8_incidents (1 : Nat) (Option.some FieldType.int)) ∈ TB := tb_of (List.mem_of_getElem? (i := 614) (by decide +kernel)) (by decide +kernel)
theorem w_615 : (Cond.methodLink "RamStationLaw" (94 : Nat) yX8_incidentKind) ∈ TB := tb_of (List.mem_of_getElem? (i := 615) (by decide +kernel)) (by decide +kernel)
theorem w_616 : (Cond.instanceMethod yX8_incidentKind) ∈ TB := tb_of (List.mem_of_getElem? (i := 616) (by decide +kernel)) (by decide +kernel)
theorem w_617 : (Cond.selects "RamStation" yX8_incidentKind yX8_incidentKind) ∈ TB := tb_of (List.mem_of_getElem? (i := 617) (by decide +kernel)) (by decide +kernel)
theorem w_618 : (Cond.code yX8_incidentKind cX8_incidentKind (2 : Nat) (Option.some FieldType.int)) ∈ TB := tb_of (List.mem_of_getElem? (i := 618) (by decide +kernel)) (by decide +kernel)
theorem w_619 : (Cond.methodLink "RamStation" (169 : Nat) yX6_latest) ∈ TB := tb_of (List.mem_of_getElem? (i := 619) (by decide +kernel)) (by decide +kernel)
theorem w_620 : (Cond.instanceMethod yX6_latest) ∈ TB := tb_of (List.mem_of_getElem? (i := 620) (by decide +kernel)) (by decide +kernel)
theorem w_621 : (Cond.selects "RamStation$Ring" yX6_latest yX6_latest) ∈ TB := tb_of (List.mem_of_getElem? (i := 621) (by decide +kernel)) (by decide +kernel)
theorem w_622 : (Cond.code yX6_latest cX6_latest (3 : Nat) (Option.some FieldType.int)) ∈ TB := tb_of (List.mem_of_getElem? (i := 622) (by decide +kernel)) (by decide +kernel)
theorem w_623 : (Cond.methodLinkNest "RamStation$Ring" (28 : Nat) yX8_outside "RamStation") ∈ lw_tbl := List.mem_of_getElem? (i := 623) (by decide +kernel)
theorem w_624 : (Cond.methodLink "RamStationLaw" (98 : Nat) yX8_incidentPump) ∈ TB := tb_of (List.mem_of_getElem? (i := 624) (by decide +kernel)) (by decide +kernel)
theorem w_625 : (Cond.instanceMethod yX8_incidentPump) ∈ TB := tb_of (List.mem_of_getElem? (i := 625) (by decide +kernel)) (by decide +kernel)
theorem w_626 : (Cond.selects "RamStation" yX8_incidentPump yX8_incidentPump) ∈ TB := tb_of (List.mem_of_getElem? (i := 626) (by decide +kernel)) (by decide +kernel)
theorem w_627 : (Cond.code yX8_incidentPump cX8_incidentPump (2 : Nat) (Option.some FieldType.int)) ∈ TB := tb_of (List.mem_of_getElem? (i := 627) (by decide +kernel)) (by decide +kernel)
theorem w_628 : (Cond.methodLink "RamStationLaw" (102 : Nat) yX8_incidentTime) ∈ TB := tb_of (List.mem_of_getElem? (i := 628) (by decide +kernel)) (by decide +kernel)
theorem w_629 : (Cond.instanceMethod yX8_incidentTime) ∈ TB := tb_of (List.mem_of_getElem? (i := 629) (by decide +kernel)) (by decide +kernel)
theorem w_630 : (Cond.selects "RamStation" yX8_incidentTime yX8_incidentTime) ∈ TB := tb_of (List.mem_of_getElem? (i := 630) (by decide +kernel)) (by decide +kernel)
theorem w_631 : (Cond.code yX8_incidentTime cX8_incidentTime (2 : Nat) (Option.some FieldType.int)) ∈ TB := tb_of (List.mem_of_getElem? (i := 631) (by decide +kernel)) (by decide +kernel)
theorem w_632 : (Cond.methodLink "RamStationLaw" (106 : Nat) yX8_phase) ∈ TB := tb_of (List.mem_of_getElem? (i := 632) (by decide +kernel)) (by decide +kernel)
theorem w_633 : (Cond.instanceMethod yX8_phase) ∈ TB := tb_of (List.mem_of_getElem? (i := 633) (by decide +kernel)) (by decide +kernel)
theorem w_634 : (Cond.selects "RamStation" yX8_phase yX8_phase) ∈ TB := tb_of (List.mem_of_getElem? (i := 634) (by decide +kernel)) (by decide +kernel)
theorem w_635 : (Cond.code yX8_phase cX8_phase (3 : Nat) (Option.some FieldType.int)) ∈ TB := tb_of (List.mem_of_getElem? (i := 635) (by decide +kernel)) (by decide +kernel)
theorem w_636 : (Cond.methodLink "RamStationLaw" (110 : Nat) yX8_speed) ∈ TB := tb_of (List.mem_of_getElem? (i := 636) (by decide +kernel)) (by decide +kernel)
theorem w_637 : (Cond.instanceMethod yX8_speed) ∈ TB := tb_of (List.mem_of_getElem? (i := 637) (by decide +kernel)) (by decide +kernel)
theorem w_638 : (Cond.selects "RamStation" yX8_speed yX8_speed) ∈ TB := tb_of (List.mem_of_getElem? (i := 638) (by decide +kernel)) (by decide +kernel)
theorem w_639 : (Cond.code yX8_speed cX8_speed (3 : Nat) (Option.some FieldType.int)) ∈ TB := tb_of (List.mem_of_getElem? (i := 639) (by decide +kernel)) (by decide +kernel)
theorem w_640 : (Cond.methodLink "RamStationLaw" (114 : Nat) yX8_openTicks) ∈ TB := tb_of (List.mem_of_getElem? (i := 640) (by decide +kernel)) (by decide +kernel)
theorem w_641 : (Cond.instanceMethod yX8_openTicks) ∈ TB := tb_of (List.mem_of_getElem? (i := 641) (by decide +kernel)) (by decide +kernel)
theorem w_642 : (Cond.selects "RamStation" yX8_openTicks yX8_openTicks) ∈ TB := tb_of (List.mem_of_getElem? (i := 642) (by decide +kernel)) (by decide +kernel)
theorem w_643 : (Cond.code yX8_openTicks cX8_openTicks (3 : Nat) (Option.some FieldType.int)) ∈ TB := tb_of (List.mem_of_getElem? (i := 643) (by decide +kernel)) (by decide +kernel)
theorem w_644 : (Cond.methodLink "RamStationLaw" (118 : Nat) yX8_chamberWater) ∈ TB := tb_of (List.mem_of_getElem? (i := 644) (by decide +kernel)) (by decide +kernel)
theorem w_645 : (Cond.instanceMethod yX8_chamberWater) ∈ TB := tb_of (List.mem_of_getElem? (i := 645) (by decide +kernel)) (by decide +kernel)
theorem w_646 : (Cond.selects "RamStation" yX8_chamberWater yX8_chamberWater) ∈ TB := tb_of (List.mem_of_getElem? (i := 646) (by decide +kernel)) (by decide +kernel)
theorem w_647 : (Cond.code yX8_chamberWater cX8_chamberWater (3 : Nat) (Option.some FieldType.int)) ∈ TB := tb_of (List.mem_of_getElem? (i := 647) (by decide +kernel)) (by decide +kernel)
theorem w_648 : (Cond.methodLink "RamStationLaw" (122 : Nat) yX8_air) ∈ TB := tb_of (List.mem_of_getElem? (i := 648) (by decide +kernel)) (by decide +kernel)
theorem w_649 : (Cond.instanceMethod yX8_air) ∈ TB := tb_of (List.mem_of_getElem? (i := 649) (by decide +kernel)) (by decide +kernel)
theorem w_650 : (Cond.selects "RamStation" yX8_air yX8_air) ∈ TB := tb_of (List.mem_of_getElem? (i := 650) (by decide +kernel)) (by decide +kernel)
theorem w_651 : (Cond.code yX8_air cX8_air (3 : Nat) (Option.some FieldType.int)) ∈ TB := tb_of (List.mem_of_getElem? (i := 651) (by decide +kernel)) (by decide +kernel)
theorem w_652 : (Cond.methodLink "RamStationLaw" (126 : Nat) yX8_chamberHead) ∈ TB := tb_of (List.mem_of_getElem? (i := 652) (by decide +kernel)) (by decide +kernel)
theorem w_653 : (Cond.instanceMethod yX8_chamberHead) ∈ TB := tb_of (List.mem_of_getElem? (i := 653) (by decide +kernel)) (by decide +kernel)
theorem w_654 : (Cond.selects "RamStation" yX8_chamberHead yX8_chamberHead) ∈ TB := tb_of (List.mem_of_getElem? (i := 654) (by decide +kernel)) (by decide +kernel)
theorem w_655 : (Cond.code yX8_chamberHead cX8_chamberHead (3 : Nat) (Option.some FieldType.int)) ∈ TB := tb_of (List.mem_of_getElem? (i := 655) (by decide +kernel)) (by decide +kernel)
theorem w_656 : (Cond.methodLink "RamStation" (192 : Nat) yX0_head) ∈ TB := tb_of (List.mem_of_getElem? (i := 656) (by decide +kernel)) (by decide +kernel)
theorem w_657 : (Cond.methodLink "RamStationLaw" (130 : Nat) yX8_beats) ∈ TB := tb_of (List.mem_of_getElem? (i := 657) (by decide +kernel)) (by decide +kernel)
theorem w_658 : (Cond.instanceMethod yX8_beats) ∈ TB := tb_of (List.mem_of_getElem? (i := 658) (by decide +kernel)) (by decide +kernel)
theorem w_659 : (Cond.selects "RamStation" yX8_beats yX8_beats) ∈ TB := tb_of (List.mem_of_getElem? (i := 659) (by decide +kernel)) (by decide +kernel)
theorem w_660 : (Cond.code yX8_beats cX8_beats (3 : Nat) (Option.some FieldType.int)) ∈ TB := tb_of (List.mem_of_getElem? (i := 660) (by decide +kernel)) (by decide +kernel)
theorem w_661 : (Cond.methodLink "RamStationLaw" (134 : Nat) yX8_wasted) ∈ TB := tb_of (List.mem_of_getElem? (i := 661) (by decide +kernel)) (by decide +kernel)
theorem w_662 : (Cond.instanceMethod yX8_wasted) ∈ TB := tb_of (List.mem_of_getElem? (i := 662) (by decide +kernel)) (by decide +kernel)
theorem w_663 : (Cond.selects "RamStation" yX8_wasted yX8_wasted) ∈ TB := tb_of (List.mem_of_getElem? (i := 663) (by decide +kernel)) (by decide +kernel)
theorem w_664 : (Cond.code yX8_wasted cX8_wasted (3 : Nat) (Option.some FieldType.int)) ∈ TB := tb_of (List.mem_of_getElem? (i := 664) (by decide +kernel)) (by decide +kernel)
theorem w_665 : (Cond.methodLink "RamStationLaw" (138 : Nat) yX8_relieved) ∈ TB := tb_of (List.mem_of_getElem? (i := 665) (by decide +kernel)) (by decide +kernel)
theorem w_666 : (Cond.instanceMethod yX8_relieved) ∈ TB := tb_of (List.mem_of_getElem? (i := 666) (by decide +kernel)) (by decide +kernel)
theorem w_667 : (Cond.selects "RamStation" yX8_relieved yX8_relieved) ∈ TB := tb_of (List.mem_of_getElem? (i := 667) (by decide +kernel)) (by decide +kernel)
theorem w_668 : (Cond.code yX8_relieved cX8_relieved (3 : Nat) (Option.some FieldType.int)) ∈ TB := tb_of (List.mem_of_getElem? (i := 668) (by decide +kernel)) (by decide +kernel)
theorem w_669 : (Cond.methodLink "RamStationLaw" (142 : Nat) yX8_lifted) ∈ TB := tb_of (List.mem_of_getElem? (i := 669) (by decide +kernel)) (by decide +kernel)
theorem w_670 : (Cond.instanceMethod yX8_lifted) ∈ TB := tb_of (List.mem_of_getElem? (i := 670) (by decide +kernel)) (by decide +kernel)
theorem w_671 : (Cond.selects "RamStation" yX8_lifted yX8_lifted) ∈ TB := tb_of (List.mem_of_getElem? (i := 671) (by decide +kernel)) (by decide +kernel)
theorem w_672 : (Cond.code yX8_lifted cX8_lifted (3 : Nat) (Option.some FieldType.int)) ∈ TB := tb_of (List.mem_of_getElem? (i := 672) (by decide +kernel)) (by decide +kernel)
theorem w_673 : (Cond.methodLink "RamStationLaw" (146 : Nat) yX8_overflowed) ∈ TB := tb_of (List.mem_of_getElem? (i := 673) (by decide +kernel)) (by decide +kernel)
theorem w_674 : (Cond.instanceMethod yX8_overflowed) ∈ TB := tb_of (List.mem_of_getElem? (i := 674) (by decide +kernel)) (by decide +kernel)
theorem w_675 : (Cond.selects "RamStation" yX8_overflowed yX8_overflowed) ∈ TB := tb_of (List.mem_of_getElem? (i := 675) (by decide +kernel)) (by decide +kernel)
theorem w_676 : (Cond.code yX8_overflowed cX8_overflowed (3 : Nat) (Option.some FieldType.int)) ∈ TB := tb_of (List.mem_of_getElem? (i := 676) (by decide +kernel)) (by decide +kernel)
theorem w_677 : (Cond.methodLink "RamStationLaw" (150 : Nat) yX8_starved) ∈ TB := tb_of (List.mem_of_getElem? (i := 677) (by decide +kernel)) (by decide +kernel)
theorem w_678 : (Cond.instanceMethod yX8_starved) ∈ TB := tb_of (List.mem_of_getElem? (i := 678) (by decide +kernel)) (by decide +kernel)
theorem w_679 : (Cond.selects "RamStation" yX8_starved yX8_starved) ∈ TB := tb_of (List.mem_of_getElem? (i := 679) (by decide +kernel)) (by decide +kernel)
theorem w_680 : (Cond.code yX8_starved cX8_starved (3 : Nat) (Option.some FieldType.int)) ∈ TB := tb_of (List.mem_of_getElem? (i := 680) (by decide +kernel)) (by decide +kernel)
theorem w_681 : (Cond.methodLink "RamStationLaw" (154 : Nat) yX8_tank) ∈ TB := tb_of (List.mem_of_getElem? (i := 681) (by decide +kernel)) (by decide +kernel)
theorem w_682 : (Cond.instanceMethod yX8_tank) ∈ TB := tb_of (List.mem_of_getElem? (i := 682) (by decide +kernel)) (by decide +kernel)
theorem w_683 : (Cond.selects "RamStation" yX8_tank yX8_tank) ∈ TB := tb_of (List.mem_of_getElem? (i := 683) (by decide +kernel)) (by decide +kernel)
theorem w_684 : (Cond.code yX8_tank cX8_tank (3 : Nat) (Option.some FieldType.int)) ∈ TB := tb_of (List.mem_of_getElem? (i := 684) (by decide +kernel)) (by decide +kernel)
theorem w_685 : (Cond.methodLink "RamStationLaw" (158 : Nat) yX8_interval) ∈ TB := tb_of (List.mem_of_getElem? (i := 685) (by decide +kernel)) (by decide +kernel)
theorem w_686 : (Cond.instanceMethod yX8_interval) ∈ TB := tb_of (List.mem_of_getElem? (i := 686) (by decide +kernel)) (by decide +kernel)
theorem w_687 : (Cond.selects "RamStation" yX8_interval yX8_interval) ∈ TB := tb_of (List.mem_of_getElem? (i := 687) (by decide +kernel)) (by decide +kernel)
theorem w_688 : (Cond.code yX8_interval cX8_interval (4 : Nat) (Option.some FieldType.int)) ∈ TB := tb_of (List.mem_of_getElem? (i := 688) (by decide +kernel)) (by decide +kernel)
theorem w_689 : (Cond.methodLink "RamStationLaw" (163 : Nat) yX8_trace) ∈ TB := tb_of (List.mem_of_getElem? (i := 689) (by decide +kernel)) (by decide +kernel)
theorem w_690 : (Cond.instanceMethod yX8_trace) ∈ TB := tb_of (List.mem_of_getElem? (i := 690) (by decide +kernel)) (by decide +kernel)
theorem w_691 : (Cond.selects "RamStation" yX8_trace yX8_trace) ∈ TB := tb_of (List.mem_of_getElem? (i := 691) (by decide +kernel)) (by decide +kernel)
theorem w_692 : (Cond.code yX8_trace cX8_trace (4 : Nat) (Option.some FieldType.int)) ∈ TB := tb_of (List.mem_of_getElem? (i := 692) (by decide +kernel)) (by decide +kernel)
theorem w_693 : (Cond.methodLink "RamStationLaw" (167 : Nat) yX8_efficiency) ∈ TB := tb_of (List.mem_of_getElem? (i := 693) (by decide +kernel)) (by decide +kernel)
theorem w_694 : (Cond.instanceMethod yX8_efficiency) ∈ TB := tb_of (List.mem_of_getElem? (i := 694) (by decide +kernel)) (by decide +kernel)
theorem w_695 : (Cond.selects "RamStation" yX8_efficiency yX8_efficiency) ∈ TB := tb_of (List.mem_of_getElem? (i := 695) (by decide +kernel)) (by decide +kernel)
theorem w_696 : (Cond.code yX8_efficiency cX8_efficiency (3 : Nat) (Option.some FieldType.int)) ∈ TB := tb_of (List.mem_of_getElem? (i := 696) (by decide +kernel)) (by decide +kernel)
theorem w_697 : (Cond.methodLink "RamStation" (225 : Nat) yX4_thousandths) ∈ TB := tb_of (List.mem_of_getElem? (i := 697) (by decide +kernel)) (by decide +kernel)
theorem w_698 : (Cond.instanceMethod yX4_thousandths) ∈ TB := tb_of (List.mem_of_getElem? (i := 698) (by decide +kernel)) (by decide +kernel)
theorem w_699 : (Cond.selects "RamStation$Pump" yX4_thousandths yX4_thousandths) ∈ TB := tb_of (List.mem_of_getElem? (i := 699) (by decide +kernel)) (by decide +kernel)
theorem w_700 : (Cond.code yX4_thousandths cX4_thousandths (5 : Nat) (Option.some FieldType.int)) ∈ TB := tb_of (List.mem_of_getElem? (i := 700) (by decide +kernel)) (by decide +kernel)
theorem w_701 : (Cond.constantLong "RamStation$Pump" (183 : Nat) (1000 : Int64)) ∈ TB := tb_of (List.mem_of_getElem? (i := 701) (by decide +kernel)) (by decide +kernel)
theorem w_702 : (Cond.methodLink "RamStationLaw" (171 : Nat) yX8_bestPump) ∈ TB := tb_of (List.mem_of_getElem? (i := 702) (by decide +kernel)) (by decide +kernel)
theorem w_703 : (Cond.instanceMethod yX8_bestPump) ∈ TB := tb_of (List.mem_of_getElem? (i := 703) (by decide +kernel)) (by decide +kernel)
theorem w_704 : (Cond.selects "RamStation" yX8_bestPump yX8_bestPump) ∈ TB := tb_of (List.mem_of_getElem? (i := 704) (by decide +kernel)) (by decide +kernel)
theorem w_705 : (Cond.code yX8_bestPump cX8_bestPump (5 : Nat) (Option.some FieldType.int)) ∈ TB := tb_of (List.mem_of_getElem? (i := 705) (by decide +kernel)) (by decide +kernel)
theorem w_706 : (Cond.methodLink "RamStation" (228 : Nat) yX8_efficiency) ∈ TB := tb_of (List.mem_of_getElem? (i := 706) (by decide +kernel)) (by decide +kernel)
theorem w_707 : (Cond.methodLink "RamStationLaw" (175 : Nat) yX8_ticksToSlam) ∈ TB := tb_of (List.mem_of_getElem? (i := 707) (by decide +kernel)) (by decide +kernel)
theorem w_708 : (Cond.instanceMethod yX8_ticksToSlam) ∈ TB := tb_of (List.mem_of_getElem? (i := 708) (by decide +kernel)) (by decide +kernel)
theorem w_709 : (Cond.selects "RamStation" yX8_ticksToSlam yX8_ticksToSlam) ∈ TB := tb_of (List.mem_of_getElem? (i := 709) (by decide +kernel)) (by decide +kernel)
theorem w_710 : (Cond.code yX8_ticksToSlam cX8_ticksToSlam (4 : Nat) (Option.some FieldType.int)) ∈ TB := tb_of (List.mem_of_getElem? (i := 710) (by decide +kernel)) (by decide +kernel)
theorem w_711 : (Cond.methodLink "RamStation" (231 : Nat) yX4_copyFrom) ∈ TB := tb_of (List.mem_of_getElem? (i := 711) (by decide +kernel)) (by decide +kernel)
theorem w_712 : (Cond.methodLink "RamStation" (234 : Nat) yX8_tickTrial) ∈ TB := tb_of (List.mem_of_getElem? (i := 712) (by decide +kernel)) (by decide +kernel)
theorem w_714 : (Cond.instanceMethod yX8_tickTrial) ∈ TB := tb_of (List.mem_of_getElem? (i := 714) (by decide +kernel)) (by decide +kernel)
theorem w_715 : (Cond.code yX8_tickTrial cX8_tickTrial (1 : Nat) (Option.none : Option FieldType)) ∈ TB := tb_of (List.mem_of_getElem? (i := 715) (by decide +kernel)) (by decide +kernel)
theorem w_716 : (Cond.constant "RamStation" (311 : Nat) (1000000 : Int32)) ∈ TB := tb_of (List.mem_of_getElem? (i := 716) (by decide +kernel)) (by decide +kernel)
theorem w_717 : (Cond.methodLink "RamStationLaw" (179 : Nat) yX8_deliveredIn) ∈ TB := tb_of (List.mem_of_getElem? (i := 717) (by decide +kernel)) (by decide +kernel)
theorem w_718 : (Cond.instanceMethod yX8_deliveredIn) ∈ TB := tb_of (List.mem_of_getElem? (i := 718) (by decide +kernel)) (by decide +kernel)
theorem w_719 : (Cond.selects "RamStation" yX8_deliveredIn yX8_deliveredIn) ∈ TB := tb_of (List.mem_of_getElem? (i := 719) (by decide +kernel)) (by decide +kernel)
theorem w_720 : (Cond.code yX8_deliveredIn cX8_deliveredIn (4 : Nat) (Option.some FieldType.int)) ∈ TB := tb_of (List.mem_of_getElem? (i := 720) (by decide +kernel)) (by decide +kernel)
theorem w_721 : (Cond.methodLink "RamStation" (240 : Nat) yX8_trialDelivery) ∈ TB := tb_of (List.mem_of_getElem? (i := 721) (by decide +kernel)) (by decide +kernel)
theorem w_723 : (Cond.instanceMethod yX8_trialDelivery) ∈ TB := tb_of (List.mem_of_getElem? (i := 723) (by decide +kernel)) (by decide +kernel)
theorem w_724 : (Cond.code yX8_trialDelivery cX8_trialDelivery (4 : Nat) (Option.some FieldType.int)) ∈ TB := tb_of (List.mem_of_getElem? (i := 724) (by decide +kernel)) (by decide +kernel)
theorem w_725 : (Cond.methodLink "RamStationLaw" (183 : Nat) yX8_drawnIn) ∈ TB := tb_of (List.mem_of_getElem? (i := 725) (by decide +kernel)) (by decide +kernel)
theorem w_726 : (Cond.instanceMethod yX8_drawnIn) ∈ TB := tb_of (List.mem_of_getElem? (i := 726) (by decide +kernel)) (by decide +kernel)
theorem w_727 : (Cond.selects "RamStation" yX8_drawnIn yX8_drawnIn) ∈ TB := tb_of (List.mem_of_getElem? (i := 727) (by decide +kernel)) (by decide +kernel)
theorem w_728 : (Cond.code yX8_drawnIn cX8_drawnIn (6 : Nat) (Option.some FieldType.int)) ∈ TB := tb_of (List.mem_of_getElem? (i := 728) (by decide +kernel)) (by decide +kernel)
theorem w_729 : (Cond.methodLink "RamStationLaw" (187 : Nat) yX8_period) ∈ TB := tb_of (List.mem_of_getElem? (i := 729) (by decide +kernel)) (by decide +kernel)
theorem w_730 : (Cond.instanceMethod yX8_period) ∈ TB := tb_of (List.mem_of_getElem? (i := 730) (by decide +kernel)) (by decide +kernel)
theorem w_731 : (Cond.selects "RamStation" yX8_period yX8_period) ∈ TB := tb_of (List.mem_of_getElem? (i := 731) (by decide +kernel)) (by decide +kernel)
theorem w_732 : (Cond.code yX8_period cX8_period (4 : Nat) (Option.some FieldType.int)) ∈ TB := tb_of (List.mem_of_getElem? (i := 732) (by decide +kernel)) (by decide +kernel)
theorem w_733 : (Cond.methodLink "RamStation" (246 : Nat) yX4_slamMark) ∈ TB := tb_of (List.mem_of_getElem? (i := 733) (by decide +kernel)) (by decide +kernel)
theorem w_734 : (Cond.instanceMethod yX4_slamMark) ∈ TB := tb_of (List.mem_of_getElem? (i := 734) (by decide +kernel)) (by decide +kernel)
theorem w_735 : (Cond.selects "RamStation$Pump" yX4_slamMark yX4_slamMark) ∈ TB := tb_of (List.mem_of_getElem? (i := 735) (by decide +kernel)) (by decide +kernel)
theorem w_736 : (Cond.code yX4_slamMark cX4_slamMark (1 : Nat) (Option.some FieldType.long)) ∈ TB := tb_of (List.mem_of_getElem? (i := 736) (by decide +kernel)) (by decide +kernel)
theorem w_737 : (Cond.constantLong "RamStation$Pump" (185 : Nat) (4096 : Int64)) ∈ TB := tb_of (List.mem_of_getElem? (i := 737) (by decide +kernel)) (by decide +kernel)
theorem w_738 : (Cond.constantLong "RamStation" (250 : Nat) (-1 : Int64)) ∈ TB := tb_of (List.mem_of_getElem? (i := 738) (by decide +kernel)) (by decide +kernel)
theorem w_739 : (Cond.methodLink "RamStation" (252 : Nat) yX8_ticksFromSlamLikeLast) ∈ TB := tb_of (List.mem_of_getElem? (i := 739) (by decide +kernel)) (by decide +kernel)
theorem w_741 : (Cond.instanceMethod yX8_ticksFromSlamLikeLast) ∈ TB := tb_of (List.mem_of_getElem? (i := 741) (by decide +kernel)) (by decide +kernel)
theorem w_742 : (Cond.code yX8_ticksFromSlamLikeLast cX8_ticksFromSlamLikeLast (7 : Nat) (Option.some FieldType.int)) ∈ TB := tb_of (List.mem_of_getElem? (i := 742) (by decide +kernel)) (by decide +kernel)
theorem w_743 : (Cond.methodLink "RamStationLaw" (191 : Nat) yX8_bestLength) ∈ TB := tb_of (List.mem_of_getElem? (i := 743) (by decide +kernel)) (by decide +kernel)
theorem w_744 : (Cond.instanceMethod yX8_bestLength) ∈ TB := tb_of (List.mem_of_getElem? (i := 744) (by decide +kernel)) (by decide +kernel)
theorem w_745 : (Cond.selects "RamStation" yX8_bestLength yX8_bestLength) ∈ TB := tb_of (List.mem_of_getElem? (i := 745) (by decide +kernel)) (by decide +kernel)
theorem w_746 : (Cond.code yX8_bestLength cX8_bestLength (8 : Nat) (Option.some FieldType.int)) ∈ TB := tb_of (List.mem_of_getElem? (i := 746) (by decide +kernel)) (by decide +kernel)
theorem w_747 : (Cond.methodLink "RamStation" (255 : Nat) yX8_deliveryFromRest) ∈ TB := tb_of (List.mem_of_getElem? (i := 747) (by decide +kernel)) (by decide +kernel)
theorem w_749 : (Cond.instanceMethod yX8_deliveryFromRest) ∈ TB := tb_of (List.mem_of_getElem? (i := 749) (by decide +kernel)) (by decide +kernel)
theorem w_750 : (Cond.code yX8_deliveryFromRest cX8_deliveryFromRest (5 : Nat) (Option.some FieldType.int)) ∈ TB := tb_of (List.mem_of_getElem? (i := 750) (by decide +kernel)) (by decide +kernel)
theorem w_751 : (Cond.methodLink "RamStationLaw" (195 : Nat) yX8_bestSetting) ∈ TB := tb_of (List.mem_of_getElem? (i := 751) (by decide +kernel)) (by decide +kernel)
theorem w_752 : (Cond.instanceMethod yX8_bestSetting) ∈ TB := tb_of (List.mem_of_getElem? (i := 752) (by decide +kernel)) (by decide +kernel)
theorem w_753 : (Cond.selects "RamStation" yX8_bestSetting yX8_bestSetting) ∈ TB := tb_of (List.mem_of_getElem? (i := 753) (by decide +kernel)) (by decide +kernel)
theorem w_754 : (Cond.code yX8_bestSetting cX8_bestSetting (8 : Nat) (Option.some FieldType.int)) ∈ TB := tb_of (List.mem_of_getElem? (i := 754) (by decide +kernel)) (by decide +kernel)
theorem w_755 : (Cond.classLink "RamStationLaw" (10 : Nat) "RamStationModel") ∈ TB := tb_of (List.mem_of_getElem? (i := 755) (by decide +kernel)) (by decide +kernel)
theorem w_756 : (Cond.instantiable "RamStationModel" (19 : Nat)) ∈ TB := tb_of (List.mem_of_getElem? (i := 756) (by decide +kernel)) (by decide +kernel)
theorem w_757 : (Cond.methodLink "RamStationLaw" (12 : Nat) yX9_init) ∈ TB := tb_of (List.mem_of_getElem? (i := 757) (by decide +kernel)) (by decide +kernel)
theorem w_758 : (Cond.instanceMethod yX9_init) ∈ TB := tb_of (List.mem_of_getElem? (i := 758) (by decide +kernel)) (by decide +kernel)
theorem w_759 : (Cond.code yX9_init cX9_init (1 : Nat) (Option.none : Option FieldType)) ∈ TB := tb_of (List.mem_of_getElem? (i := 759) (by decide +kernel)) (by decide +kernel)
theorem w_760 : (Cond.methodLink "RamStationModel" (1 : Nat) ({ cls := "java/lang/Object", name := "<init>", desc := "()V" } : Jvm.MethodName)) ∈ TB := tb_of (List.mem_of_getElem? (i := 760) (by decide +kernel)) (by decide +kernel)
theorem w_761 : (Cond.fieldLink "RamStationModel" (7 : Nat) "RamStationModel" "now" "[I") ∈ TB := tb_of (List.mem_of_getElem? (i := 761) (by decide +kernel)) (by decide +kernel)
theorem w_762 : (Cond.fieldLink "RamStationModel" (13 : Nat) "RamStationModel" "past" "[I") ∈ TB := tb_of (List.mem_of_getElem? (i := 762) (by decide +kernel)) (by decide +kernel)
theorem w_763 : (Cond.fieldLink "RamStationModel" (43 : Nat) "RamStationModel" "recorded" "I") ∈ TB := tb_of (List.mem_of_getElem? (i := 763) (by decide +kernel)) (by decide +kernel)
theorem w_764 : (Cond.fieldLink "RamStationModel" (16 : Nat) "RamStationModel" "kinds" "[I") ∈ TB := tb_of (List.mem_of_getElem? (i := 764) (by decide +kernel)) (by decide +kernel)
theorem w_765 : (Cond.fieldLink "RamStationModel" (19 : Nat) "RamStationModel" "pumpsOf" "[I") ∈ TB := tb_of (List.mem_of_getElem? (i := 765) (by decide +kernel)) (by decide +kernel)
theorem w_766 : (Cond.fieldLink "RamStationModel" (22 : Nat) "RamStationModel" "times" "[I") ∈ TB := tb_of (List.mem_of_getElem? (i := 766) (by decide +kernel)) (by decide +kernel)
theorem w_767 : (Cond.fieldLink "RamStationModel" (46 : Nat) "RamStationModel" "happened" "I") ∈ TB := tb_of (List.mem_of_getElem? (i := 767) (by decide +kernel)) (by decide +kernel)
theorem w_768 : (Cond.fieldLink "RamStationModel" (49 : Nat) "RamStationModel" "slammed" "Z") ∈ TB := tb_of (List.mem_of_getElem? (i := 768) (by decide +kernel)) (by decide +kernel)
theorem w_769 : (Cond.fieldLink "RamStationModel" (81 : Nat) "RamStationModel" "drawn" "I") ∈ TB := tb_of (List.mem_of_getElem? (i := 769) (by decide +kernel)) (by decide +kernel)
theorem w_770 : (Cond.fieldLink "RamStationModel" (78 : Nat) "RamStationModel" "delivered" "I") ∈ TB := tb_of (List.mem_of_getElem? (i := 770) (by decide +kernel)) (by decide +kernel)
theorem w_771 : (Cond.fieldLink "RamStationModel" (25 : Nat) "RamStationModel" "text" "[I") ∈ TB := tb_of (List.mem_of_getElem? (i := 771) (by decide +kernel)) (by decide +kernel)
theorem w_772 : (Cond.fieldLink "RamStationModel" (145 : Nat) "RamStationModel" "texted" "I") ∈ TB := tb_of (List.mem_of_getElem? (i := 772) (by decide +kernel)) (by decide +kernel)
theorem w_773 : (Cond.fieldLink "RamStationModel" (28 : Nat) "RamStationModel" "failed" "I") ∈ TB := tb_of (List.mem_of_getElem? (i := 773) (by decide +kernel)) (by decide +kernel)
theorem w_774 : (Cond.fieldLink "RamStationModel" (148 : Nat) "RamStationModel" "at0" "I") ∈ TB := tb_of (List.mem_of_getElem? (i := 774) (by decide +kernel)) (by decide +kernel)
theorem w_775 : (Cond.fieldLink "RamStationModel" (151 : Nat) "RamStationModel" "wrong" "Z") ∈ TB := tb_of (List.mem_of_getElem? (i := 775) (by decide +kernel)) (by decide +kernel)
theorem w_776 : (Cond.fieldLink "RamStationModel" (161 : Nat) "RamStationModel" "letter" "I") ∈ TB := tb_of (List.mem_of_getElem? (i := 776) (by decide +kernel)) (by decide +kernel)
theorem w_777 : (Cond.fieldLink "RamStationModel" (164 : Nat) "RamStationModel" "which" "I") ∈ TB := tb_of (List.mem_of_getElem? (i := 777) (by decide +kernel)) (by decide +kernel)
theorem w_778 : (Cond.fieldLink "RamStationModel" (173 : Nat) "RamStationModel" "value" "I") ∈ TB := tb_of (List.mem_of_getElem? (i := 778) (by decide +kernel)) (by decide +kernel)
theorem w_779 : (Cond.fieldLink "RamStationModel" (32 : Nat) "RamStationModel" "slams" "[I") ∈ TB := tb_of (List.mem_of_getElem? (i := 779) (by decide +kernel)) (by decide +kernel)
theorem w_780 : (Cond.laysFinal "RamStationModel" "RamStationModel" "now" "[I") ∈ TB := tb_of (List.mem_of_getElem? (i := 780) (by decide +kernel)) (by decide +kernel)
theorem w_782 : (Cond.laysFinal "RamStationModel" "RamStationModel" "past" "[I") ∈ TB := tb_of (List.mem_of_getElem? (i := 782) (by decide +kernel)) (by decide +kernel)
theorem w_784 : (Cond.lays "RamStationModel" "RamStationModel" "recorded" "I") ∈ TB := tb_of (List.mem_of_getElem? (i := 784) (by decide +kernel)) (by decide +kernel)
theorem w_786 : (Cond.laysFinal "RamStationModel" "RamStationModel" "kinds" "[I") ∈ TB := tb_of (List.mem_of_getElem? (i := 786) (by decide +kernel)) (by decide +kernel)
theorem w_788 : (Cond.laysFinal "RamStationModel" "RamStationModel" "pumpsOf" "[I") ∈ TB := tb_of (List.mem_of_getElem? (i := 788) (by decide +kernel)) (by decide +kernel)
theorem w_790 : (Cond.laysFinal "RamStationModel" "RamStationModel" "times" "[I") ∈ TB := tb_of (List.mem_of_getElem? (i := 790) (by decide +kernel)) (by decide +kernel)
theorem w_792 : (Cond.lays "RamStationModel" "RamStationModel" "happened" "I") ∈ TB := tb_of (List.mem_of_getElem? (i := 792) (by decide +kernel)) (by decide +kernel)
theorem w_794 : (Cond.lays "RamStationModel" "RamStationModel" "slammed" "Z") ∈ TB := tb_of (List.mem_of_getElem? (i := 794) (by decide +kernel)) (by decide +kernel)
theorem w_796 : (Cond.lays "RamStationModel" "RamStationModel" "drawn" "I") ∈ TB := tb_of (List.mem_of_getElem? (i := 796) (by decide +kernel)) (by decide +kernel)
theorem w_798 : (Cond.lays "RamStationModel" "RamStationModel" "delivered" "I") ∈ TB := tb_of (List.mem_of_getElem? (i := 798) (by decide +kernel)) (by decide +kernel)
theorem w_800 : (Cond.laysFinal "RamStationModel" "RamStationModel" "text" "[I") ∈ TB := tb_of (List.mem_of_getElem? (i := 800) (by decide +kernel)) (by decide +kernel)
theorem w_802 : (Cond.lays "RamStationModel" "RamStationModel" "texted" "I") ∈ TB := tb_of (List.mem_of_getElem? (i := 802) (by decide +kernel)) (by decide +kernel)
theorem w_804 : (Cond.lays "RamStationModel" "RamStationModel" "failed" "I") ∈ TB := tb_of (List.mem_of_getElem? (i := 804) (by decide +kernel)) (by decide +kernel)
theorem w_806 : (Cond.lays "RamStationModel" "RamStationModel" "at0" "I") ∈ TB := tb_of (List.mem_of_getElem? (i := 806) (by decide +kernel)) (by decide +kernel)
theorem w_808 : (Cond.lays "RamStationModel" "RamStationModel" "wrong" "Z") ∈ TB := tb_of (List.mem_of_getElem? (i := 808) (by decide +kernel)) (by decide +kernel)
theorem w_810 : (Cond.lays "RamStationModel" "RamStationModel" "letter" "I") ∈ TB := tb_of (List.mem_of_getElem? (i := 810) (by decide +kernel)) (by decide +kernel)
theorem w_812 : (Cond.lays "RamStationModel" "RamStationModel" "which" "I") ∈ TB := tb_of (List.mem_of_getElem? (i := 812) (by decide +kernel)) (by decide +kernel)
theorem w_814 : (Cond.lays "RamStationModel" "RamStationModel" "value" "I") ∈ TB := tb_of (List.mem_of_getElem? (i := 814) (by decide +kernel)) (by decide +kernel)
theorem w_816 : (Cond.laysFinal "RamStationModel" "RamStationModel" "slams" "[I") ∈ TB := tb_of (List.mem_of_getElem? (i := 816) (by decide +kernel)) (by decide +kernel)
theorem w_819 : (Cond.methodLink "RamStationLaw" (53 : Nat) yX9_undo) ∈ TB := tb_of (List.mem_of_getElem? (i := 819) (by decide +kernel)) (by decide +kernel)
theorem w_820 : (Cond.instanceMethod yX9_undo) ∈ TB := tb_of (List.mem_of_getElem? (i := 820) (by decide +kernel)) (by decide +kernel)
theorem w_821 : (Cond.selects "RamStationModel" yX9_undo yX9_undo) ∈ TB := tb_of (List.mem_of_getElem? (i := 821) (by decide +kernel)) (by decide +kernel)
theorem w_822 : (Cond.code yX9_undo cX9_undo (2 : Nat) (Option.some FieldType.int)) ∈ TB := tb_of (List.mem_of_getElem? (i := 822) (by decide +kernel)) (by decide +kernel)
theorem w_823 : (Cond.methodLink "RamStationLaw" (17 : Nat) yX9_addPump) ∈ TB := tb_of (List.mem_of_getElem? (i := 823) (by decide +kernel)) (by decide +kernel)
theorem w_824 : (Cond.instanceMethod yX9_addPump) ∈ TB := tb_of (List.mem_of_getElem? (i := 824) (by decide +kernel)) (by decide +kernel)
theorem w_825 : (Cond.selects "RamStationModel" yX9_addPump yX9_addPump) ∈ TB := tb_of (List.mem_of_getElem? (i := 825) (by decide +kernel)) (by decide +kernel)
theorem w_826 : (Cond.code yX9_addPump cX9_addPump (9 : Nat) (Option.some FieldType.int)) ∈ TB := tb_of (List.mem_of_getElem? (i := 826) (by decide +kernel)) (by decide +kernel)
theorem w_827 : (Cond.methodLink "RamStationModel" (35 : Nat) yX9_in) ∈ TB := tb_of (List.mem_of_getElem? (i := 827) (by decide +kernel)) (by decide +kernel)
theorem w_828 : (Cond.static yX9_in) ∈ TB := tb_of (List.mem_of_getElem? (i := 828) (by decide +kernel)) (by decide +kernel)
theorem w_829 : (Cond.code yX9_in cX9_in (3 : Nat) (Option.some FieldType.boolean)) ∈ TB := tb_of (List.mem_of_getElem? (i := 829) (by decide +kernel)) (by decide +kernel)
theorem w_830 : (Cond.methodLink "RamStationModel" (103 : Nat) yX9_record) ∈ TB := tb_of (List.mem_of_getElem? (i := 830) (by decide +kernel)) (by decide +kernel)
theorem w_832 : (Cond.instanceMethod yX9_record) ∈ TB := tb_of (List.mem_of_getElem? (i := 832) (by decide +kernel)) (by decide +kernel)
theorem w_833 : (Cond.code yX9_record cX9_record (2 : Nat) (Option.none : Option FieldType)) ∈ TB := tb_of (List.mem_of_getElem? (i := 833) (by decide +kernel)) (by decide +kernel)
theorem w_834 : (Cond.methodLink "RamStationModel" (39 : Nat) yX9_at) ∈ TB := tb_of (List.mem_of_getElem? (i := 834) (by decide +kernel)) (by decide +kernel)
theorem w_835 : (Cond.static yX9_at) ∈ TB := tb_of (List.mem_of_getElem? (i := 835) (by decide +kernel)) (by decide +kernel)
theorem w_836 : (Cond.code yX9_at cX9_at (1 : Nat) (Option.some FieldType.int)) ∈ TB := tb_of (List.mem_of_getElem? (i := 836) (by decide +kernel)) (by decide +kernel)
theorem w_837 : (Cond.methodLink "RamStationLaw" (22 : Nat) yX9_setValve) ∈ TB := tb_of (List.mem_of_getElem? (i := 837) (by decide +kernel)) (by decide +kernel)
theorem w_838 : (Cond.instanceMethod yX9_setValve) ∈ TB := tb_of (List.mem_of_getElem? (i := 838) (by decide +kernel)) (by decide +kernel)
theorem w_839 : (Cond.selects "RamStationModel" yX9_setValve yX9_setValve) ∈ TB := tb_of (List.mem_of_getElem? (i := 839) (by decide +kernel)) (by decide +kernel)
theorem w_840 : (Cond.code yX9_setValve cX9_setValve (5 : Nat) (Option.some FieldType.int)) ∈ TB := tb_of (List.mem_of_getElem? (i := 840) (by decide +kernel)) (by decide +kernel)
theorem w_841 : (Cond.methodLink "RamStationModel" (109 : Nat) yX9_valveRefused) ∈ TB := tb_of (List.mem_of_getElem? (i := 841) (by decide +kernel)) (by decide +kernel)
theorem w_843 : (Cond.instanceMethod yX9_valveRefused) ∈ TB := tb_of (List.mem_of_getElem? (i := 843) (by decide +kernel)) (by decide +kernel)
theorem w_844 : (Cond.code yX9_valveRefused cX9_valveRefused (4 : Nat) (Option.some FieldType.int)) ∈ TB := tb_of (List.mem_of_getElem? (i := 844) (by decide +kernel)) (by decide +kernel)
theorem w_845 : (Cond.methodLink "RamStationModel" (106 : Nat) yX9_isPump) ∈ TB := tb_of (List.mem_of_getElem? (i := 845) (by decide +kernel)) (by decide +kernel)
theorem w_847 : (Cond.instanceMethod yX9_isPump) ∈ TB := tb_of (List.mem_of_getElem? (i := 847) (by decide +kernel)) (by decide +kernel)
theorem w_848 : (Cond.code yX9_isPump cX9_isPump (2 : Nat) (Option.some FieldType.boolean)) ∈ TB := tb_of (List.mem_of_getElem? (i := 848) (by decide +kernel)) (by decide +kernel)
theorem w_849 : (Cond.methodLink "RamStationModel" (113 : Nat) yX9_valveNow) ∈ TB := tb_of (List.mem_of_getElem? (i := 849) (by decide +kernel)) (by decide +kernel)
theorem w_851 : (Cond.instanceMethod yX9_valveNow) ∈ TB := tb_of (List.mem_of_getElem? (i := 851) (by decide +kernel)) (by decide +kernel)
theorem w_852 : (Cond.code yX9_valveNow cX9_valveNow (6 : Nat) (Option.some FieldType.int)) ∈ TB := tb_of (List.mem_of_getElem? (i := 852) (by decide +kernel)) (by decide +kernel)
theorem w_853 : (Cond.methodLink "RamStationLaw" (27 : Nat) yX9_setChamber) ∈ TB := tb_of (List.mem_of_getElem? (i := 853) (by decide +kernel)) (by decide +kernel)
theorem w_854 : (Cond.instanceMethod yX9_setChamber) ∈ TB := tb_of (List.mem_of_getElem? (i := 854) (by decide +kernel)) (by decide +kernel)
theorem w_855 : (Cond.selects "RamStationModel" yX9_setChamber yX9_setChamber) ∈ TB := tb_of (List.mem_of_getElem? (i := 855) (by decide +kernel)) (by decide +kernel)
theorem w_856 : (Cond.code yX9_setChamber cX9_setChamber (6 : Nat) (Option.some FieldType.int)) ∈ TB := tb_of (List.mem_of_getElem? (i := 856) (by decide +kernel)) (by decide +kernel)
theorem w_857 : (Cond.methodLink "RamStationModel" (97 : Nat) yX9_fill) ∈ TB := tb_of (List.mem_of_getElem? (i := 857) (by decide +kernel)) (by decide +kernel)
theorem w_859 : (Cond.instanceMethod yX9_fill) ∈ TB := tb_of (List.mem_of_getElem? (i := 859) (by decide +kernel)) (by decide +kernel)
theorem w_860 : (Cond.code yX9_fill cX9_fill (2 : Nat) (Option.none : Option FieldType)) ∈ TB := tb_of (List.mem_of_getElem? (i := 860) (by decide +kernel)) (by decide +kernel)
theorem w_861 : (Cond.methodLink "RamStationLaw" (32 : Nat) yX9_setInflow) ∈ TB := tb_of (List.mem_of_getElem? (i := 861) (by decide +kernel)) (by decide +kernel)
theorem w_862 : (Cond.instanceMethod yX9_setInflow) ∈ TB := tb_of (List.mem_of_getElem? (i := 862) (by decide +kernel)) (by decide +kernel)
theorem w_863 : (Cond.selects "RamStationModel" yX9_setInflow yX9_setInflow) ∈ TB := tb_of (List.mem_of_getElem? (i := 863) (by decide +kernel)) (by decide +kernel)
theorem w_864 : (Cond.code yX9_setInflow cX9_setInflow (2 : Nat) (Option.some FieldType.int)) ∈ TB := tb_of (List.mem_of_getElem? (i := 864) (by decide +kernel)) (by decide +kernel)
theorem w_865 : (Cond.methodLink "RamStationModel" (116 : Nat) yX9_inflowNow) ∈ TB := tb_of (List.mem_of_getElem? (i := 865) (by decide +kernel)) (by decide +kernel)
theorem w_867 : (Cond.instanceMethod yX9_inflowNow) ∈ TB := tb_of (List.mem_of_getElem? (i := 867) (by decide +kernel)) (by decide +kernel)
theorem w_868 : (Cond.code yX9_inflowNow cX9_inflowNow (3 : Nat) (Option.some FieldType.int)) ∈ TB := tb_of (List.mem_of_getElem? (i := 868) (by decide +kernel)) (by decide +kernel)
theorem w_869 : (Cond.methodLink "RamStationLaw" (36 : Nat) yX9_start) ∈ TB := tb_of (List.mem_of_getElem? (i := 869) (by decide +kernel)) (by decide +kernel)
theorem w_870 : (Cond.instanceMethod yX9_start) ∈ TB := tb_of (List.mem_of_getElem? (i := 870) (by decide +kernel)) (by decide +kernel)
theorem w_871 : (Cond.selects "RamStationModel" yX9_start yX9_start) ∈ TB := tb_of (List.mem_of_getElem? (i := 871) (by decide +kernel)) (by decide +kernel)
theorem w_872 : (Cond.code yX9_start cX9_start (3 : Nat) (Option.some FieldType.int)) ∈ TB := tb_of (List.mem_of_getElem? (i := 872) (by decide +kernel)) (by decide +kernel)
theorem w_873 : (Cond.methodLink "RamStationModel" (123 : Nat) yX9_runRefused) ∈ TB := tb_of (List.mem_of_getElem? (i := 873) (by decide +kernel)) (by decide +kernel)
theorem w_875 : (Cond.instanceMethod yX9_runRefused) ∈ TB := tb_of (List.mem_of_getElem? (i := 875) (by decide +kernel)) (by decide +kernel)
theorem w_876 : (Cond.code yX9_runRefused cX9_runRefused (3 : Nat) (Option.some FieldType.int)) ∈ TB := tb_of (List.mem_of_getElem? (i := 876) (by decide +kernel)) (by decide +kernel)
theorem w_877 : (Cond.methodLink "RamStationModel" (127 : Nat) yX9_startNow) ∈ TB := tb_of (List.mem_of_getElem? (i := 877) (by decide +kernel)) (by decide +kernel)
theorem w_879 : (Cond.instanceMethod yX9_startNow) ∈ TB := tb_of (List.mem_of_getElem? (i := 879) (by decide +kernel)) (by decide +kernel)
theorem w_880 : (Cond.code yX9_startNow cX9_startNow (2 : Nat) (Option.some FieldType.int)) ∈ TB := tb_of (List.mem_of_getElem? (i := 880) (by decide +kernel)) (by decide +kernel)
theorem w_881 : (Cond.methodLink "RamStationModel" (119 : Nat) yX9_running) ∈ TB := tb_of (List.mem_of_getElem? (i := 881) (by decide +kernel)) (by decide +kernel)
theorem w_883 : (Cond.instanceMethod yX9_running) ∈ TB := tb_of (List.mem_of_getElem? (i := 883) (by decide +kernel)) (by decide +kernel)
theorem w_884 : (Cond.code yX9_running cX9_running (3 : Nat) (Option.some FieldType.int)) ∈ TB := tb_of (List.mem_of_getElem? (i := 884) (by decide +kernel)) (by decide +kernel)
theorem w_885 : (Cond.methodLink "RamStationLaw" (40 : Nat) yX9_stop) ∈ TB := tb_of (List.mem_of_getElem? (i := 885) (by decide +kernel)) (by decide +kernel)
theorem w_886 : (Cond.instanceMethod yX9_stop) ∈ TB := tb_of (List.mem_of_getElem? (i := 886) (by decide +kernel)) (by decide +kernel)
theorem w_887 : (Cond.selects "RamStationModel" yX9_stop yX9_stop) ∈ TB := tb_of (List.mem_of_getElem? (i := 887) (by decide +kernel)) (by decide +kernel)
theorem w_888 : (Cond.code yX9_stop cX9_stop (3 : Nat) (Option.some FieldType.int)) ∈ TB := tb_of (List.mem_of_getElem? (i := 888) (by decide +kernel)) (by decide +kernel)
theorem w_889 : (Cond.methodLink "RamStationModel" (130 : Nat) yX9_stopNow) ∈ TB := tb_of (List.mem_of_getElem? (i := 889) (by decide +kernel)) (by decide +kernel)
theorem w_891 : (Cond.instanceMethod yX9_stopNow) ∈ TB := tb_of (List.mem_of_getElem? (i := 891) (by decide +kernel)) (by decide +kernel)
theorem w_892 : (Cond.code yX9_stopNow cX9_stopNow (2 : Nat) (Option.some FieldType.int)) ∈ TB := tb_of (List.mem_of_getElem? (i := 892) (by decide +kernel)) (by decide +kernel)
theorem w_893 : (Cond.methodLink "RamStationModel" (75 : Nat) yX9_open) ∈ TB := tb_of (List.mem_of_getElem? (i := 893) (by decide +kernel)) (by decide +kernel)
theorem w_895 : (Cond.instanceMethod yX9_open) ∈ TB := tb_of (List.mem_of_getElem? (i := 895) (by decide +kernel)) (by decide +kernel)
theorem w_896 : (Cond.code yX9_open cX9_open (2 : Nat) (Option.none : Option FieldType)) ∈ TB := tb_of (List.mem_of_getElem? (i := 896) (by decide +kernel)) (by decide +kernel)
theorem w_897 : (Cond.methodLink "RamStationLaw" (44 : Nat) yX9_emptyTank) ∈ TB := tb_of (List.mem_of_getElem? (i := 897) (by decide +kernel)) (by decide +kernel)
theorem w_898 : (Cond.instanceMethod yX9_emptyTank) ∈ TB := tb_of (List.mem_of_getElem? (i := 898) (by decide +kernel)) (by decide +kernel)
theorem w_899 : (Cond.selects "RamStationModel" yX9_emptyTank yX9_emptyTank) ∈ TB := tb_of (List.mem_of_getElem? (i := 899) (by decide +kernel)) (by decide +kernel)
theorem w_900 : (Cond.code yX9_emptyTank cX9_emptyTank (3 : Nat) (Option.some FieldType.int)) ∈ TB := tb_of (List.mem_of_getElem? (i := 900) (by decide +kernel)) (by decide +kernel)
theorem w_901 : (Cond.methodLink "RamStationModel" (133 : Nat) yX9_tankRefused) ∈ TB := tb_of (List.mem_of_getElem? (i := 901) (by decide +kernel)) (by decide +kernel)
theorem w_903 : (Cond.instanceMethod yX9_tankRefused) ∈ TB := tb_of (List.mem_of_getElem? (i := 903) (by decide +kernel)) (by decide +kernel)
theorem w_904 : (Cond.code yX9_tankRefused cX9_tankRefused (2 : Nat) (Option.some FieldType.int)) ∈ TB := tb_of (List.mem_of_getElem? (i := 904) (by decide +kernel)) (by decide +kernel)
theorem w_905 : (Cond.methodLink "RamStationModel" (136 : Nat) yX9_tankNow) ∈ TB := tb_of (List.mem_of_getElem? (i := 905) (by decide +kernel)) (by decide +kernel)
theorem w_907 : (Cond.instanceMethod yX9_tankNow) ∈ TB := tb_of (List.mem_of_getElem? (i := 907) (by decide +kernel)) (by decide +kernel)
theorem w_908 : (Cond.code yX9_tankNow cX9_tankNow (3 : Nat) (Option.some FieldType.int)) ∈ TB := tb_of (List.mem_of_getElem? (i := 908) (by decide +kernel)) (by decide +kernel)
theorem w_909 : (Cond.methodLink "RamStationLaw" (48 : Nat) yX9_pass) ∈ TB := tb_of (List.mem_of_getElem? (i := 909) (by decide +kernel)) (by decide +kernel)
theorem w_910 : (Cond.instanceMethod yX9_pass) ∈ TB := tb_of (List.mem_of_getElem? (i := 910) (by decide +kernel)) (by decide +kernel)
theorem w_911 : (Cond.selects "RamStationModel" yX9_pass yX9_pass) ∈ TB := tb_of (List.mem_of_getElem? (i := 911) (by decide +kernel)) (by decide +kernel)
theorem w_912 : (Cond.code yX9_pass cX9_pass (3 : Nat) (Option.some FieldType.int)) ∈ TB := tb_of (List.mem_of_getElem? (i := 912) (by decide +kernel)) (by decide +kernel)
theorem w_913 : (Cond.methodLink "RamStationModel" (139 : Nat) yX9_passRefused) ∈ TB := tb_of (List.mem_of_getElem? (i := 913) (by decide +kernel)) (by decide +kernel)
theorem w_915 : (Cond.instanceMethod yX9_passRefused) ∈ TB := tb_of (List.mem_of_getElem? (i := 915) (by decide +kernel)) (by decide +kernel)
theorem w_916 : (Cond.code yX9_passRefused cX9_passRefused (2 : Nat) (Option.some FieldType.int)) ∈ TB := tb_of (List.mem_of_getElem? (i := 916) (by decide +kernel)) (by decide +kernel)
theorem w_917 : (Cond.methodLink "RamStationModel" (142 : Nat) yX9_passNow) ∈ TB := tb_of (List.mem_of_getElem? (i := 917) (by decide +kernel)) (by decide +kernel)
theorem w_919 : (Cond.instanceMethod yX9_passNow) ∈ TB := tb_of (List.mem_of_getElem? (i := 919) (by decide +kernel)) (by decide +kernel)
theorem w_920 : (Cond.code yX9_passNow cX9_passNow (4 : Nat) (Option.some FieldType.int)) ∈ TB := tb_of (List.mem_of_getElem? (i := 920) (by decide +kernel)) (by decide +kernel)
theorem w_921 : (Cond.methodLink "RamStationModel" (100 : Nat) yX9_tick) ∈ TB := tb_of (List.mem_of_getElem? (i := 921) (by decide +kernel)) (by decide +kernel)
theorem w_923 : (Cond.instanceMethod yX9_tick) ∈ TB := tb_of (List.mem_of_getElem? (i := 923) (by decide +kernel)) (by decide +kernel)
theorem w_924 : (Cond.code yX9_tick cX9_tick (4 : Nat) (Option.none : Option FieldType)) ∈ TB := tb_of (List.mem_of_getElem? (i := 924) (by decide +kernel)) (by decide +kernel)
theorem w_925 : (Cond.methodLink "RamStationModel" (60 : Nat) yX9_incident) ∈ TB := tb_of (List.mem_of_getElem? (i := 925) (by decide +kernel)) (by decide +kernel)
theorem w_927 : (Cond.instanceMethod yX9_incident) ∈ TB := tb_of (List.mem_of_getElem? (i := 927) (by decide +kernel)) (by decide +kernel)
theorem w_928 : (Cond.code yX9_incident cX9_incident (4 : Nat) (Option.none : Option FieldType)) ∈ TB := tb_of (List.mem_of_getElem? (i := 928) (by decide +kernel)) (by decide +kernel)
theorem w_929 : (Cond.methodLink "RamStationModel" (84 : Nat) yX9_gain) ∈ TB := tb_of (List.mem_of_getElem? (i := 929) (by decide +kernel)) (by decide +kernel)
theorem w_931 : (Cond.instanceMethod yX9_gain) ∈ TB := tb_of (List.mem_of_getElem? (i := 931) (by decide +kernel)) (by decide +kernel)
theorem w_932 : (Cond.code yX9_gain cX9_gain (6 : Nat) (Option.none : Option FieldType)) ∈ TB := tb_of (List.mem_of_getElem? (i := 932) (by decide +kernel)) (by decide +kernel)
theorem w_933 : (Cond.constant "RamStationModel" (64 : Nat) (100000 : Int32)) ∈ TB := tb_of (List.mem_of_getElem? (i := 933) (by decide +kernel)) (by decide +kernel)
theorem w_934 : (Cond.methodLink "RamStationModel" (65 : Nat) yX9_slamsBy) ∈ TB := tb_of (List.mem_of_getElem? (i := 934) (by decide +kernel)) (by decide +kernel)
theorem w_936 : (Cond.instanceMethod yX9_slamsBy) ∈ TB := tb_of (List.mem_of_getElem? (i := 936) (by decide +kernel)) (by decide +kernel)
theorem w_937 : (Cond.code yX9_slamsBy cX9_slamsBy (4 : Nat) (Option.some FieldType.boolean)) ∈ TB := tb_of (List.mem_of_getElem? (i := 937) (by decide +kernel)) (by decide +kernel)
theorem w_938 : (Cond.methodLink "RamStationModel" (69 : Nat) yX9_slam) ∈ TB := tb_of (List.mem_of_getElem? (i := 938) (by decide +kernel)) (by decide +kernel)
theorem w_940 : (Cond.instanceMethod yX9_slam) ∈ TB := tb_of (List.mem_of_getElem? (i := 940) (by decide +kernel)) (by decide +kernel)
theorem w_941 : (Cond.code yX9_slam cX9_slam (5 : Nat) (Option.none : Option FieldType)) ∈ TB := tb_of (List.mem_of_getElem? (i := 941) (by decide +kernel)) (by decide +kernel)
theorem w_942 : (Cond.methodLink "RamStationModel" (53 : Nat) yX9_addInterval) ∈ TB := tb_of (List.mem_of_getElem? (i := 942) (by decide +kernel)) (by decide +kernel)
theorem w_944 : (Cond.instanceMethod yX9_addInterval) ∈ TB := tb_of (List.mem_of_getElem? (i := 944) (by decide +kernel)) (by decide +kernel)
theorem w_945 : (Cond.code yX9_addInterval cX9_addInterval (3 : Nat) (Option.none : Option FieldType)) ∈ TB := tb_of (List.mem_of_getElem? (i := 945) (by decide +kernel)) (by decide +kernel)
theorem w_946 : (Cond.methodLink "RamStationModel" (57 : Nat) yX9_leastSpace) ∈ TB := tb_of (List.mem_of_getElem? (i := 946) (by decide +kernel)) (by decide +kernel)
theorem w_948 : (Cond.instanceMethod yX9_leastSpace) ∈ TB := tb_of (List.mem_of_getElem? (i := 948) (by decide +kernel)) (by decide +kernel)
theorem w_949 : (Cond.code yX9_leastSpace cX9_leastSpace (2 : Nat) (Option.some FieldType.int)) ∈ TB := tb_of (List.mem_of_getElem? (i := 949) (by decide +kernel)) (by decide +kernel)
theorem w_950 : (Cond.methodLink "RamStationModel" (88 : Nat) yX9_push) ∈ TB := tb_of (List.mem_of_getElem? (i := 950) (by decide +kernel)) (by decide +kernel)
theorem w_952 : (Cond.instanceMethod yX9_push) ∈ TB := tb_of (List.mem_of_getElem? (i := 952) (by decide +kernel)) (by decide +kernel)
theorem w_953 : (Cond.code yX9_push cX9_push (8 : Nat) (Option.none : Option FieldType)) ∈ TB := tb_of (List.mem_of_getElem? (i := 953) (by decide +kernel)) (by decide +kernel)
theorem w_954 : (Cond.methodLink "RamStationModel" (72 : Nat) yX9_head) ∈ TB := tb_of (List.mem_of_getElem? (i := 954) (by decide +kernel)) (by decide +kernel)
theorem w_956 : (Cond.instanceMethod yX9_head) ∈ TB := tb_of (List.mem_of_getElem? (i := 956) (by decide +kernel)) (by decide +kernel)
theorem w_957 : (Cond.code yX9_head cX9_head (3 : Nat) (Option.some FieldType.int)) ∈ TB := tb_of (List.mem_of_getElem? (i := 957) (by decide +kernel)) (by decide +kernel)
theorem w_958 : (Cond.methodLink "RamStationModel" (91 : Nat) yX9_deliver) ∈ TB := tb_of (List.mem_of_getElem? (i := 958) (by decide +kernel)) (by decide +kernel)
theorem w_960 : (Cond.instanceMethod yX9_deliver) ∈ TB := tb_of (List.mem_of_getElem? (i := 960) (by decide +kernel)) (by decide +kernel)
theorem w_961 : (Cond.code yX9_deliver cX9_deliver (6 : Nat) (Option.none : Option FieldType)) ∈ TB := tb_of (List.mem_of_getElem? (i := 961) (by decide +kernel)) (by decide +kernel)
theorem w_962 : (Cond.methodLink "RamStationModel" (94 : Nat) yX9_addTrace) ∈ TB := tb_of (List.mem_of_getElem? (i := 962) (by decide +kernel)) (by decide +kernel)
theorem w_964 : (Cond.instanceMethod yX9_addTrace) ∈ TB := tb_of (List.mem_of_getElem? (i := 964) (by decide +kernel)) (by decide +kernel)
theorem w_965 : (Cond.code yX9_addTrace cX9_addTrace (3 : Nat) (Option.none : Option FieldType)) ∈ TB := tb_of (List.mem_of_getElem? (i := 965) (by decide +kernel)) (by decide +kernel)
theorem w_966 : (Cond.methodLink "RamStationLaw" (57 : Nat) yX9_type) ∈ TB := tb_of (List.mem_of_getElem? (i := 966) (by decide +kernel)) (by decide +kernel)
theorem w_967 : (Cond.instanceMethod yX9_type) ∈ TB := tb_of (List.mem_of_getElem? (i := 967) (by decide +kernel)) (by decide +kernel)
theorem w_968 : (Cond.selects "RamStationModel" yX9_type yX9_type) ∈ TB := tb_of (List.mem_of_getElem? (i := 968) (by decide +kernel)) (by decide +kernel)
theorem w_969 : (Cond.code yX9_type cX9_type (2 : Nat) (Option.some FieldType.int)) ∈ TB := tb_of (List.mem_of_getElem? (i := 969) (by decide +kernel)) (by decide +kernel)
theorem w_970 : (Cond.methodLink "RamStationLaw" (61 : Nat) yX9_clearText) ∈ TB := tb_of (List.mem_of_getElem? (i := 970) (by decide +kernel)) (by decide +kernel)
theorem w_971 : (Cond.instanceMethod yX9_clearText) ∈ TB := tb_of (List.mem_of_getElem? (i := 971) (by decide +kernel)) (by decide +kernel)
theorem w_972 : (Cond.selects "RamStationModel" yX9_clearText yX9_clearText) ∈ TB := tb_of (List.mem_of_getElem? (i := 972) (by decide +kernel)) (by decide +kernel)
theorem w_973 : (Cond.code yX9_clearText cX9_clearText (2 : Nat) (Option.some FieldType.int)) ∈ TB := tb_of (List.mem_of_getElem? (i := 973) (by decide +kernel)) (by decide +kernel)
theorem w_974 : (Cond.methodLink "RamStationLaw" (65 : Nat) yX9_syntaxError) ∈ TB := tb_of (List.mem_of_getElem? (i := 974) (by decide +kernel)) (by decide +kernel)
theorem w_975 : (Cond.instanceMethod yX9_syntaxError) ∈ TB := tb_of (List.mem_of_getElem? (i := 975) (by decide +kernel)) (by decide +kernel)
theorem w_976 : (Cond.selects "RamStationModel" yX9_syntaxError yX9_syntaxError) ∈ TB := tb_of (List.mem_of_getElem? (i := 976) (by decide +kernel)) (by decide +kernel)
theorem w_977 : (Cond.code yX9_syntaxError cX9_syntaxError (1 : Nat) (Option.some FieldType.int)) ∈ TB := tb_of (List.mem_of_getElem? (i := 977) (by decide +kernel)) (by decide +kernel)
theorem w_978 : (Cond.methodLink "RamStationModel" (179 : Nat) yX9_check) ∈ TB := tb_of (List.mem_of_getElem? (i := 978) (by decide +kernel)) (by decide +kernel)
theorem w_980 : (Cond.instanceMethod yX9_check) ∈ TB := tb_of (List.mem_of_getElem? (i := 980) (by decide +kernel)) (by decide +kernel)
theorem w_981 : (Cond.code yX9_check cX9_check (1 : Nat) (Option.some FieldType.int)) ∈ TB := tb_of (List.mem_of_getElem? (i := 981) (by decide +kernel)) (by decide +kernel)
theorem w_982 : (Cond.methodLink "RamStationModel" (176 : Nat) yX9_readCommand) ∈ TB := tb_of (List.mem_of_getElem? (i := 982) (by decide +kernel)) (by decide +kernel)
theorem w_984 : (Cond.instanceMethod yX9_readCommand) ∈ TB := tb_of (List.mem_of_getElem? (i := 984) (by decide +kernel)) (by decide +kernel)
theorem w_985 : (Cond.code yX9_readCommand cX9_readCommand (2 : Nat) (Option.none : Option FieldType)) ∈ TB := tb_of (List.mem_of_getElem? (i := 985) (by decide +kernel)) (by decide +kernel)
theorem w_986 : (Cond.methodLink "RamStationModel" (158 : Nat) yX9_digit) ∈ TB := tb_of (List.mem_of_getElem? (i := 986) (by decide +kernel)) (by decide +kernel)
theorem w_988 : (Cond.instanceMethod yX9_digit) ∈ TB := tb_of (List.mem_of_getElem? (i := 988) (by decide +kernel)) (by decide +kernel)
theorem w_989 : (Cond.code yX9_digit cX9_digit (2 : Nat) (Option.some FieldType.int)) ∈ TB := tb_of (List.mem_of_getElem? (i := 989) (by decide +kernel)) (by decide +kernel)
theorem w_990 : (Cond.methodLink "RamStationModel" (154 : Nat) yX9_isDigit) ∈ TB := tb_of (List.mem_of_getElem? (i := 990) (by decide +kernel)) (by decide +kernel)
theorem w_992 : (Cond.instanceMethod yX9_isDigit) ∈ TB := tb_of (List.mem_of_getElem? (i := 992) (by decide +kernel)) (by decide +kernel)
theorem w_993 : (Cond.code yX9_isDigit cX9_isDigit (1 : Nat) (Option.some FieldType.boolean)) ∈ TB := tb_of (List.mem_of_getElem? (i := 993) (by decide +kernel)) (by decide +kernel)
theorem w_994 : (Cond.methodLink "RamStationModel" (167 : Nat) yX9_sign) ∈ TB := tb_of (List.mem_of_getElem? (i := 994) (by decide +kernel)) (by decide +kernel)
theorem w_996 : (Cond.instanceMethod yX9_sign) ∈ TB := tb_of (List.mem_of_getElem? (i := 996) (by decide +kernel)) (by decide +kernel)
theorem w_997 : (Cond.code yX9_sign cX9_sign (2 : Nat) (Option.none : Option FieldType)) ∈ TB := tb_of (List.mem_of_getElem? (i := 997) (by decide +kernel)) (by decide +kernel)
theorem w_998 : (Cond.methodLink "RamStationModel" (170 : Nat) yX9_number) ∈ TB := tb_of (List.mem_of_getElem? (i := 998) (by decide +kernel)) (by decide +kernel)
theorem w_1000 : (Cond.instanceMethod yX9_number) ∈ TB := tb_of (List.mem_of_getElem? (i := 1000) (by decide +kernel)) (by decide +kernel)
theorem w_1001 : (Cond.code yX9_number cX9_number (3 : Nat) (Option.some FieldType.int)) ∈ TB := tb_of (List.mem_of_getElem? (i := 1001) (by decide +kernel)) (by decide +kernel)
theorem w_1002 : (Cond.methodLink "RamStationLaw" (69 : Nat) yX9_execute) ∈ TB := tb_of (List.mem_of_getElem? (i := 1002) (by decide +kernel)) (by decide +kernel)
theorem w_1003 : (Cond.instanceMethod yX9_execute) ∈ TB := tb_of (List.mem_of_getElem? (i := 1003) (by decide +kernel)) (by decide +kernel)
theorem w_1004 : (Cond.selects "RamStationModel" yX9_execute yX9_execute) ∈ TB := tb_of (List.mem_of_getElem? (i := 1004) (by decide +kernel)) (by decide +kernel)
theorem w_1005 : (Cond.code yX9_execute cX9_execute (3 : Nat) (Option.some FieldType.int)) ∈ TB := tb_of (List.mem_of_getElem? (i := 1005) (by decide +kernel)) (by decide +kernel)
theorem w_1006 : (Cond.methodLink "RamStationModel" (182 : Nat) yX9_perform) ∈ TB := tb_of (List.mem_of_getElem? (i := 1006) (by decide +kernel)) (by decide +kernel)
theorem w_1008 : (Cond.instanceMethod yX9_perform) ∈ TB := tb_of (List.mem_of_getElem? (i := 1008) (by decide +kernel)) (by decide +kernel)
theorem w_1009 : (Cond.code yX9_perform cX9_perform (4 : Nat) (Option.some FieldType.int)) ∈ TB := tb_of (List.mem_of_getElem? (i := 1009) (by decide +kernel)) (by decide +kernel)
theorem w_1010 : (Cond.methodLink "RamStationLaw" (73 : Nat) yX9_failure) ∈ TB := tb_of (List.mem_of_getElem? (i := 1010) (by decide +kernel)) (by decide +kernel)
theorem w_1011 : (Cond.instanceMethod yX9_failure) ∈ TB := tb_of (List.mem_of_getElem? (i := 1011) (by decide +kernel)) (by decide +kernel)
theorem w_1012 : (Cond.selects "RamStationModel" yX9_failure yX9_failure) ∈ TB := tb_of (List.mem_of_getElem? (i := 1012) (by decide +kernel)) (by decide +kernel)
theorem w_1013 : (Cond.code yX9_failure cX9_failure (1 : Nat) (Option.some FieldType.int)) ∈ TB := tb_of (List.mem_of_getElem? (i := 1013) (by decide +kernel)) (by decide +kernel)
theorem w_1014 : (Cond.methodLink "RamStationLaw" (77 : Nat) yX9_time) ∈ TB := tb_of (List.mem_of_getElem? (i := 1014) (by decide +kernel)) (by decide +kernel)
theorem w_1015 : (Cond.instanceMethod yX9_time) ∈ TB := tb_of (List.mem_of_getElem? (i := 1015) (by decide +kernel)) (by decide +kernel)
theorem w_1016 : (Cond.selects "RamStationModel" yX9_time yX9_time) ∈ TB := tb_of (List.mem_of_getElem? (i := 1016) (by decide +kernel)) (by decide +kernel)
theorem w_1017 : (Cond.code yX9_time cX9_time (1 : Nat) (Option.some FieldType.int)) ∈ TB := tb_of (List.mem_of_getElem? (i := 1017) (by decide +kernel)) (by decide +kernel)
theorem w_1018 : (Cond.methodLink "RamStationLaw" (81 : Nat) yX9_basin) ∈ TB := tb_of (List.mem_of_getElem? (i := 1018) (by decide +kernel)) (by decide +kernel)
theorem w_1019 : (Cond.instanceMethod yX9_basin) ∈ TB := tb_of (List.mem_of_getElem? (i := 1019) (by decide +kernel)) (by decide +kernel)
theorem w_1020 : (Cond.selects "RamStationModel" yX9_basin yX9_basin) ∈ TB := tb_of (List.mem_of_getElem? (i := 1020) (by decide +kernel)) (by decide +kernel)
theorem w_1021 : (Cond.code yX9_basin cX9_basin (1 : Nat) (Option.some FieldType.int)) ∈ TB := tb_of (List.mem_of_getElem? (i := 1021) (by decide +kernel)) (by decide +kernel)
theorem w_1022 : (Cond.methodLink "RamStationLaw" (85 : Nat) yX9_spilled) ∈ TB := tb_of (List.mem_of_getElem? (i := 1022) (by decide +kernel)) (by decide +kernel)
theorem w_1023 : (Cond.instanceMethod yX9_spilled) ∈ TB := tb_of (List.mem_of_getElem? (i := 1023) (by decide +kernel)) (by decide +kernel)
theorem w_1024 : (Cond.selects "RamStationModel" yX9_spilled yX9_spilled) ∈ TB := tb_of (List.mem_of_getElem? (i := 1024) (by decide +kernel)) (by decide +kernel)
theorem w_1025 : (Cond.code yX9_spilled cX9_spilled (1 : Nat) (Option.some FieldType.int)) ∈ TB := tb_of (List.mem_of_getElem? (i := 1025) (by decide +kernel)) (by decide +kernel)
theorem w_1026 : (Cond.methodLink "RamStationLaw" (89 : Nat) yX9_pumps) ∈ TB := tb_of (List.mem_of_getElem? (i := 1026) (by decide +kernel)) (by decide +kernel)
theorem w_1027 : (Cond.instanceMethod yX9_pumps) ∈ TB := tb_of (List.mem_of_getElem? (i := 1027) (by decide +kernel)) (by decide +kernel)
theorem w_1028 : (Cond.selects "RamStationModel" yX9_pumps yX9_pumps) ∈ TB := tb_of (List.mem_of_getElem? (i := 1028) (by decide +kernel)) (by decide +kernel)
theorem w_1029 : (Cond.code yX9_pumps cX9_pumps (1 : Nat) (Option.some FieldType.int)) ∈ TB := tb_of (List.mem_of_getElem? (i := 1029) (by decide +kernel)) (by decide +kernel)
theorem w_1030 : (Cond.methodLink "RamStationLaw" (93 : Nat) yX9_incidents) ∈ TB := tb_of (List.mem_of_getElem? (i := 1030) (by decide +kernel)) (by decide +kernel)
theorem w_1031 : (Cond.instanceMethod yX9_incidents) ∈ TB := tb_of (List.mem_of_getElem? (i := 1031) (by decide +kernel)) (by decide +kernel)
theorem w_1032 : (Cond.selects "RamStationModel" yX9_incidents yX9_incidents) ∈ TB := tb_of (List.mem_of_getElem? (i := 1032) (by decide +kernel)) (by decide +kernel)
theorem w_1033 : (Cond.code yX9_incidents cX9_incidents (1 : Nat) (Option.some FieldType.int)) ∈ TB := tb_of (List.mem_of_getElem? (i := 1033) (by decide +kernel)) (by decide +kernel)
theorem w_1034 : (Cond.methodLink "RamStationLaw" (97 : Nat) yX9_incidentKind) ∈ TB := tb_of (List.mem_of_getElem? (i := 1034) (by decide +kernel)) (by decide +kernel)
theorem w_1035 : (Cond.instanceMethod yX9_incidentKind) ∈ TB := tb_of (List.mem_of_getElem? (i := 1035) (by decide +kernel)) (by decide +kernel)
theorem w_1036 : (Cond.selects "RamStationModel" yX9_incidentKind yX9_incidentKind) ∈ TB := tb_of (List.mem_of_getElem? (i := 1036) (by decide +kernel)) (by decide +kernel)
theorem w_1037 : (Cond.code yX9_incidentKind cX9_incidentKind (3 : Nat) (Option.some FieldType.int)) ∈ TB := tb_of (List.mem_of_getElem? (i := 1037) (by decide +kernel)) (by decide +kernel)
theorem w_1038 : (Cond.methodLink "RamStationModel" (185 : Nat) yX9_place) ∈ TB := tb_of (List.mem_of_getElem? (i := 1038) (by decide +kernel)) (by decide +kernel)
theorem w_1040 : (Cond.instanceMethod yX9_place) ∈ TB := tb_of (List.mem_of_getElem? (i := 1040) (by decide +kernel)) (by decide +kernel)
theorem w_1041 : (Cond.code yX9_place cX9_place (2 : Nat) (Option.some FieldType.int)) ∈ TB := tb_of (List.mem_of_getElem? (i := 1041) (by decide +kernel)) (by decide +kernel)
theorem w_1042 : (Cond.methodLink "RamStationLaw" (101 : Nat) yX9_incidentPump) ∈ TB := tb_of (List.mem_of_getElem? (i := 1042) (by decide +kernel)) (by decide +kernel)
theorem w_1043 : (Cond.instanceMethod yX9_incidentPump) ∈ TB := tb_of (List.mem_of_getElem? (i := 1043) (by decide +kernel)) (by decide +kernel)
theorem w_1044 : (Cond.selects "RamStationModel" yX9_incidentPump yX9_incidentPump) ∈ TB := tb_of (List.mem_of_getElem? (i := 1044) (by decide +kernel)) (by decide +kernel)
theorem w_1045 : (Cond.code yX9_incidentPump cX9_incidentPump (3 : Nat) (Option.some FieldType.int)) ∈ TB := tb_of (List.mem_of_getElem? (i := 1045) (by decide +kernel)) (by decide +kernel)
theorem w_1046 : (Cond.methodLink "RamStationLaw" (105 : Nat) yX9_incidentTime) ∈ TB := tb_of (List.mem_of_getElem? (i := 1046) (by decide +kernel)) (by decide +kernel)
theorem w_1047 : (Cond.instanceMethod yX9_incidentTime) ∈ TB := tb_of (List.mem_of_getElem? (i := 1047) (by decide +kernel)) (by decide +kernel)
theorem w_1048 : (Cond.selects "RamStationModel" yX9_incidentTime yX9_incidentTime) ∈ TB := tb_of (List.mem_of_getElem? (i := 1048) (by decide +kernel)) (by decide +kernel)
theorem w_1049 : (Cond.code yX9_incidentTime cX9_incidentTime (3 : Nat) (Option.some FieldType.int)) ∈ TB := tb_of (List.mem_of_getElem? (i := 1049) (by decide +kernel)) (by decide +kernel)
theorem w_1050 : (Cond.methodLink "RamStationLaw" (109 : Nat) yX9_phase) ∈ TB := tb_of (List.mem_of_getElem? (i := 1050) (by decide +kernel)) (by decide +kernel)
theorem w_1051 : (Cond.instanceMethod yX9_phase) ∈ TB := tb_of (List.mem_of_getElem? (i := 1051) (by decide +kernel)) (by decide +kernel)
theorem w_1052 : (Cond.selects "RamStationModel" yX9_phase yX9_phase) ∈ TB := tb_of (List.mem_of_getElem? (i := 1052) (by decide +kernel)) (by decide +kernel)
theorem w_1053 : (Cond.code yX9_phase cX9_phase (2 : Nat) (Option.some FieldType.int)) ∈ TB := tb_of (List.mem_of_getElem? (i := 1053) (by decide +kernel)) (by decide +kernel)
theorem w_1054 : (Cond.methodLink "RamStationLaw" (113 : Nat) yX9_speed) ∈ TB := tb_of (List.mem_of_getElem? (i := 1054) (by decide +kernel)) (by decide +kernel)
theorem w_1055 : (Cond.instanceMethod yX9_speed) ∈ TB := tb_of (List.mem_of_getElem? (i := 1055) (by decide +kernel)) (by decide +kernel)
theorem w_1056 : (Cond.selects "RamStationModel" yX9_speed yX9_speed) ∈ TB := tb_of (List.mem_of_getElem? (i := 1056) (by decide +kernel)) (by decide +kernel)
theorem w_1057 : (Cond.code yX9_speed cX9_speed (2 : Nat) (Option.some FieldType.int)) ∈ TB := tb_of (List.mem_of_getElem? (i := 1057) (by decide +kernel)) (by decide +kernel)
theorem w_1058 : (Cond.methodLink "RamStationModel" (188 : Nat) yX9_told) ∈ TB := tb_of (List.mem_of_getElem? (i := 1058) (by decide +kernel)) (by decide +kernel)
theorem w_1060 : (Cond.instanceMethod yX9_told) ∈ TB := tb_of (List.mem_of_getElem? (i := 1060) (by decide +kernel)) (by decide +kernel)
theorem w_1061 : (Cond.code yX9_told cX9_told (3 : Nat) (Option.some FieldType.int)) ∈ TB := tb_of (List.mem_of_getElem? (i := 1061) (by decide +kernel)) (by decide +kernel)
theorem w_1062 : (Cond.methodLink "RamStationLaw" (117 : Nat) yX9_openTicks) ∈ TB := tb_of (List.mem_of_getElem? (i := 1062) (by decide +kernel)) (by decide +kernel)
theorem w_1063 : (Cond.instanceMethod yX9_openTicks) ∈ TB := tb_of (List.mem_of_getElem? (i := 1063) (by decide +kernel)) (by decide +kernel)
theorem w_1064 : (Cond.selects "RamStationModel" yX9_openTicks yX9_openTicks) ∈ TB := tb_of (List.mem_of_getElem? (i := 1064) (by decide +kernel)) (by decide +kernel)
theorem w_1065 : (Cond.code yX9_openTicks cX9_openTicks (2 : Nat) (Option.some FieldType.int)) ∈ TB := tb_of (List.mem_of_getElem? (i := 1065) (by decide +kernel)) (by decide +kernel)
theorem w_1066 : (Cond.methodLink "RamStationLaw" (121 : Nat) yX9_chamberWater) ∈ TB := tb_of (List.mem_of_getElem? (i := 1066) (by decide +kernel)) (by decide +kernel)
theorem w_1067 : (Cond.instanceMethod yX9_chamberWater) ∈ TB := tb_of (List.mem_of_getElem? (i := 1067) (by decide +kernel)) (by decide +kernel)
theorem w_1068 : (Cond.selects "RamStationModel" yX9_chamberWater yX9_chamberWater) ∈ TB := tb_of (List.mem_of_getElem? (i := 1068) (by decide +kernel)) (by decide +kernel)
theorem w_1069 : (Cond.code yX9_chamberWater cX9_chamberWater (2 : Nat) (Option.some FieldType.int)) ∈ TB := tb_of (List.mem_of_getElem? (i := 1069) (by decide +kernel)) (by decide +kernel)
theorem w_1070 : (Cond.methodLink "RamStationLaw" (125 : Nat) yX9_air) ∈ TB := tb_of (List.mem_of_getElem? (i := 1070) (by decide +kernel)) (by decide +kernel)
theorem w_1071 : (Cond.instanceMethod yX9_air) ∈ TB := tb_of (List.mem_of_getElem? (i := 1071) (by decide +kernel)) (by decide +kernel)
theorem w_1072 : (Cond.selects "RamStationModel" yX9_air yX9_air) ∈ TB := tb_of (List.mem_of_getElem? (i := 1072) (by decide +kernel)) (by decide +kernel)
theorem w_1073 : (Cond.code yX9_air cX9_air (2 : Nat) (Option.some FieldType.int)) ∈ TB := tb_of (List.mem_of_getElem? (i := 1073) (by decide +kernel)) (by decide +kernel)
theorem w_1074 : (Cond.methodLink "RamStationLaw" (129 : Nat) yX9_chamberHead) ∈ TB := tb_of (List.mem_of_getElem? (i := 1074) (by decide +kernel)) (by decide +kernel)
theorem w_1075 : (Cond.instanceMethod yX9_chamberHead) ∈ TB := tb_of (List.mem_of_getElem? (i := 1075) (by decide +kernel)) (by decide +kernel)
theorem w_1076 : (Cond.selects "RamStationModel" yX9_chamberHead yX9_chamberHead) ∈ TB := tb_of (List.mem_of_getElem? (i := 1076) (by decide +kernel)) (by decide +kernel)
theorem w_1077 : (Cond.code yX9_chamberHead cX9_chamberHead (2 : Nat) (Option.some FieldType.int)) ∈ TB := tb_of (List.mem_of_getElem? (i := 1077) (by decide +kernel)) (by decide +kernel)
theorem w_1078 : (Cond.methodLink "RamStationLaw" (133 : Nat) yX9_beats) ∈ TB := tb_of (List.mem_of_getElem? (i := 1078) (by decide +kernel)) (by decide +kernel)
theorem w_1079 : (Cond.instanceMethod yX9_beats) ∈ TB := tb_of (List.mem_of_getElem? (i := 1079) (by decide +kernel)) (by decide +kernel)
theorem w_1080 : (Cond.selects "RamStationModel" yX9_beats yX9_beats) ∈ TB := tb_of (List.mem_of_getElem? (i := 1080) (by decide +kernel)) (by decide +kernel)
theorem w_1081 : (Cond.code yX9_beats cX9_beats (2 : Nat) (Option.some FieldType.int)) ∈ TB := tb_of (List.mem_of_getElem? (i := 1081) (by decide +kernel)) (by decide +kernel)
theorem w_1082 : (Cond.methodLink "RamStationLaw" (137 : Nat) yX9_wasted) ∈ TB := tb_of (List.mem_of_getElem? (i := 1082) (by decide +kernel)) (by decide +kernel)
theorem w_1083 : (Cond.instanceMethod yX9_wasted) ∈ TB := tb_of (List.mem_of_getElem? (i := 1083) (by decide +kernel)) (by decide +kernel)
theorem w_1084 : (Cond.selects "RamStationModel" yX9_wasted yX9_wasted) ∈ TB := tb_of (List.mem_of_getElem? (i := 1084) (by decide +kernel)) (by decide +kernel)
theorem w_1085 : (Cond.code yX9_wasted cX9_wasted (2 : Nat) (Option.some FieldType.int)) ∈ TB := tb_of (List.mem_of_getElem? (i := 1085) (by decide +kernel)) (by decide +kernel)
theorem w_1086 : (Cond.methodLink "RamStationLaw" (141 : Nat) yX9_relieved) ∈ TB := tb_of (List.mem_of_getElem? (i := 1086) (by decide +kernel)) (by decide +kernel)
theorem w_1087 : (Cond.instanceMethod yX9_relieved) ∈ TB := tb_of (List.mem_of_getElem? (i := 1087) (by decide +kernel)) (by decide +kernel)
theorem w_1088 : (Cond.selects "RamStationModel" yX9_relieved yX9_relieved) ∈ TB := tb_of (List.mem_of_getElem? (i := 1088) (by decide +kernel)) (by decide +kernel)
theorem w_1089 : (Cond.code yX9_relieved cX9_relieved (2 : Nat) (Option.some FieldType.int)) ∈ TB := tb_of (List.mem_of_getElem? (i := 1089) (by decide +kernel)) (by decide +kernel)
theorem w_1090 : (Cond.methodLink "RamStationLaw" (145 : Nat) yX9_lifted) ∈ TB := tb_of (List.mem_of_getElem? (i := 1090) (by decide +kernel)) (by decide +kernel)
theorem w_1091 : (Cond.instanceMethod yX9_lifted) ∈ TB := tb_of (List.mem_of_getElem? (i := 1091) (by decide +kernel)) (by decide +kernel)
theorem w_1092 : (Cond.selects "RamStationModel" yX9_lifted yX9_lifted) ∈ TB := tb_of (List.mem_of_getElem? (i := 1092) (by decide +kernel)) (by decide +kernel)
theorem w_1093 : (Cond.code yX9_lifted cX9_lifted (2 : Nat) (Option.some FieldType.int)) ∈ TB := tb_of (List.mem_of_getElem? (i := 1093) (by decide +kernel)) (by decide +kernel)
theorem w_1094 : (Cond.methodLink "RamStationLaw" (149 : Nat) yX9_overflowed) ∈ TB := tb_of (List.mem_of_getElem? (i := 1094) (by decide +kernel)) (by decide +kernel)
theorem w_1095 : (Cond.instanceMethod yX9_overflowed) ∈ TB := tb_of (List.mem_of_getElem? (i := 1095) (by decide +kernel)) (by decide +kernel)
theorem w_1096 : (Cond.selects "RamStationModel" yX9_overflowed yX9_overflowed) ∈ TB := tb_of (List.mem_of_getElem? (i := 1096) (by decide +kernel)) (by decide +kernel)
theorem w_1097 : (Cond.code yX9_overflowed cX9_overflowed (2 : Nat) (Option.some FieldType.int)) ∈ TB := tb_of (List.mem_of_getElem? (i := 1097) (by decide +kernel)) (by decide +kernel)
theorem w_1098 : (Cond.methodLink "RamStationLaw" (153 : Nat) yX9_starved) ∈ TB := tb_of (List.mem_of_getElem? (i := 1098) (by decide +kernel)) (by decide +kernel)
theorem w_1099 : (Cond.instanceMethod yX9_starved) ∈ TB := tb_of (List.mem_of_getElem? (i := 1099) (by decide +kernel)) (by decide +kernel)
theorem w_1100 : (Cond.selects "RamStationModel" yX9_starved yX9_starved) ∈ TB := tb_of (List.mem_of_getElem? (i := 1100) (by decide +kernel)) (by decide +kernel)
theorem w_1101 : (Cond.code yX9_starved cX9_starved (2 : Nat) (Option.some FieldType.int)) ∈ TB := tb_of (List.mem_of_getElem? (i := 1101) (by decide +kernel)) (by decide +kernel)
theorem w_1102 : (Cond.methodLink "RamStationLaw" (157 : Nat) yX9_tank) ∈ TB := tb_of (List.mem_of_getElem? (i := 1102) (by decide +kernel)) (by decide +kernel)
theorem w_1103 : (Cond.instanceMethod yX9_tank) ∈ TB := tb_of (List.mem_of_getElem? (i := 1103) (by decide +kernel)) (by decide +kernel)
theorem w_1104 : (Cond.selects "RamStationModel" yX9_tank yX9_tank) ∈ TB := tb_of (List.mem_of_getElem? (i := 1104) (by decide +kernel)) (by decide +kernel)
theorem w_1105 : (Cond.code yX9_tank cX9_tank (2 : Nat) (Option.some FieldType.int)) ∈ TB := tb_of (List.mem_of_getElem? (i := 1105) (by decide +kernel)) (by decide +kernel)
theorem w_1106 : (Cond.methodLink "RamStationLaw" (162 : Nat) yX9_interval) ∈ TB := tb_of (List.mem_of_getElem? (i := 1106) (by decide +kernel)) (by decide +kernel)
theorem w_1107 : (Cond.instanceMethod yX9_interval) ∈ TB := tb_of (List.mem_of_getElem? (i := 1107) (by decide +kernel)) (by decide +kernel)
theorem w_1108 : (Cond.selects "RamStationModel" yX9_interval yX9_interval) ∈ TB := tb_of (List.mem_of_getElem? (i := 1108) (by decide +kernel)) (by decide +kernel)
theorem w_1109 : (Cond.code yX9_interval cX9_interval (3 : Nat) (Option.some FieldType.int)) ∈ TB := tb_of (List.mem_of_getElem? (i := 1109) (by decide +kernel)) (by decide +kernel)
theorem w_1110 : (Cond.methodLink "RamStationModel" (191 : Nat) yX9_kept) ∈ TB := tb_of (List.mem_of_getElem? (i := 1110) (by decide +kernel)) (by decide +kernel)
theorem w_1112 : (Cond.instanceMethod yX9_kept) ∈ TB := tb_of (List.mem_of_getElem? (i := 1112) (by decide +kernel)) (by decide +kernel)
theorem w_1113 : (Cond.code yX9_kept cX9_kept (5 : Nat) (Option.some FieldType.int)) ∈ TB := tb_of (List.mem_of_getElem? (i := 1113) (by decide +kernel)) (by decide +kernel)
theorem w_1114 : (Cond.methodLink "RamStationLaw" (166 : Nat) yX9_trace) ∈ TB := tb_of (List.mem_of_getElem? (i := 1114) (by decide +kernel)) (by decide +kernel)
theorem w_1115 : (Cond.instanceMethod yX9_trace) ∈ TB := tb_of (List.mem_of_getElem? (i := 1115) (by decide +kernel)) (by decide +kernel)
theorem w_1116 : (Cond.selects "RamStationModel" yX9_trace yX9_trace) ∈ TB := tb_of (List.mem_of_getElem? (i := 1116) (by decide +kernel)) (by decide +kernel)
theorem w_1117 : (Cond.code yX9_trace cX9_trace (3 : Nat) (Option.some FieldType.int)) ∈ TB := tb_of (List.mem_of_getElem? (i := 1117) (by decide +kernel)) (by decide +kernel)
theorem w_1118 : (Cond.methodLink "RamStationLaw" (170 : Nat) yX9_efficiency) ∈ TB := tb_of (List.mem_of_getElem? (i := 1118) (by decide +kernel)) (by decide +kernel)
theorem w_1119 : (Cond.instanceMethod yX9_efficiency) ∈ TB := tb_of (List.mem_of_getElem? (i := 1119) (by decide +kernel)) (by decide +kernel)
theorem w_1120 : (Cond.selects "RamStationModel" yX9_efficiency yX9_efficiency) ∈ TB := tb_of (List.mem_of_getElem? (i := 1120) (by decide +kernel)) (by decide +kernel)
theorem w_1121 : (Cond.code yX9_efficiency cX9_efficiency (2 : Nat) (Option.some FieldType.int)) ∈ TB := tb_of (List.mem_of_getElem? (i := 1121) (by decide +kernel)) (by decide +kernel)
theorem w_1122 : (Cond.methodLink "RamStationModel" (197 : Nat) yX9_efficiencyOf) ∈ TB := tb_of (List.mem_of_getElem? (i := 1122) (by decide +kernel)) (by decide +kernel)
theorem w_1124 : (Cond.instanceMethod yX9_efficiencyOf) ∈ TB := tb_of (List.mem_of_getElem? (i := 1124) (by decide +kernel)) (by decide +kernel)
theorem w_1125 : (Cond.code yX9_efficiencyOf cX9_efficiencyOf (4 : Nat) (Option.some FieldType.int)) ∈ TB := tb_of (List.mem_of_getElem? (i := 1125) (by decide +kernel)) (by decide +kernel)
theorem w_1126 : (Cond.constantLong "RamStationModel" (195 : Nat) (1000 : Int64)) ∈ TB := tb_of (List.mem_of_getElem? (i := 1126) (by decide +kernel)) (by decide +kernel)
theorem w_1127 : (Cond.methodLink "RamStationLaw" (174 : Nat) yX9_bestPump) ∈ TB := tb_of (List.mem_of_getElem? (i := 1127) (by decide +kernel)) (by decide +kernel)
theorem w_1128 : (Cond.instanceMethod yX9_bestPump) ∈ TB := tb_of (List.mem_of_getElem? (i := 1128) (by decide +kernel)) (by decide +kernel)
theorem w_1129 : (Cond.selects "RamStationModel" yX9_bestPump yX9_bestPump) ∈ TB := tb_of (List.mem_of_getElem? (i := 1129) (by decide +kernel)) (by decide +kernel)
theorem w_1130 : (Cond.code yX9_bestPump cX9_bestPump (5 : Nat) (Option.some FieldType.int)) ∈ TB := tb_of (List.mem_of_getElem? (i := 1130) (by decide +kernel)) (by decide +kernel)
theorem w_1131 : (Cond.methodLink "RamStationLaw" (178 : Nat) yX9_ticksToSlam) ∈ TB := tb_of (List.mem_of_getElem? (i := 1131) (by decide +kernel)) (by decide +kernel)
theorem w_1132 : (Cond.instanceMethod yX9_ticksToSlam) ∈ TB := tb_of (List.mem_of_getElem? (i := 1132) (by decide +kernel)) (by decide +kernel)
theorem w_1133 : (Cond.selects "RamStationModel" yX9_ticksToSlam yX9_ticksToSlam) ∈ TB := tb_of (List.mem_of_getElem? (i := 1133) (by decide +kernel)) (by decide +kernel)
theorem w_1134 : (Cond.code yX9_ticksToSlam cX9_ticksToSlam (3 : Nat) (Option.some FieldType.int)) ∈ TB := tb_of (List.mem_of_getElem? (i := 1134) (by decide +kernel)) (by decide +kernel)
theorem w_1135 : (Cond.methodLink "RamStationModel" (200 : Nat) yX9_beginTrial) ∈ TB := tb_of (List.mem_of_getElem? (i := 1135) (by decide +kernel)) (by decide +kernel)
theorem w_1137 : (Cond.instanceMethod yX9_beginTrial) ∈ TB := tb_of (List.mem_of_getElem? (i := 1137) (by decide +kernel)) (by decide +kernel)
theorem w_1138 : (Cond.code yX9_beginTrial cX9_beginTrial (4 : Nat) (Option.none : Option FieldType)) ∈ TB := tb_of (List.mem_of_getElem? (i := 1138) (by decide +kernel)) (by decide +kernel)
theorem w_1139 : (Cond.methodLink "RamStationLaw" (182 : Nat) yX9_deliveredIn) ∈ TB := tb_of (List.mem_of_getElem? (i := 1139) (by decide +kernel)) (by decide +kernel)
theorem w_1140 : (Cond.instanceMethod yX9_deliveredIn) ∈ TB := tb_of (List.mem_of_getElem? (i := 1140) (by decide +kernel)) (by decide +kernel)
theorem w_1141 : (Cond.selects "RamStationModel" yX9_deliveredIn yX9_deliveredIn) ∈ TB := tb_of (List.mem_of_getElem? (i := 1141) (by decide +kernel)) (by decide +kernel)
theorem w_1142 : (Cond.code yX9_deliveredIn cX9_deliveredIn (4 : Nat) (Option.some FieldType.int)) ∈ TB := tb_of (List.mem_of_getElem? (i := 1142) (by decide +kernel)) (by decide +kernel)
theorem w_1143 : (Cond.methodLink "RamStationModel" (204 : Nat) yX9_trialRefused) ∈ TB := tb_of (List.mem_of_getElem? (i := 1143) (by decide +kernel)) (by decide +kernel)
theorem w_1145 : (Cond.instanceMethod yX9_trialRefused) ∈ TB := tb_of (List.mem_of_getElem? (i := 1145) (by decide +kernel)) (by decide +kernel)
theorem w_1146 : (Cond.code yX9_trialRefused cX9_trialRefused (4 : Nat) (Option.some FieldType.int)) ∈ TB := tb_of (List.mem_of_getElem? (i := 1146) (by decide +kernel)) (by decide +kernel)
theorem w_1147 : (Cond.methodLink "RamStationModel" (207 : Nat) yX9_goOn) ∈ TB := tb_of (List.mem_of_getElem? (i := 1147) (by decide +kernel)) (by decide +kernel)
theorem w_1149 : (Cond.instanceMethod yX9_goOn) ∈ TB := tb_of (List.mem_of_getElem? (i := 1149) (by decide +kernel)) (by decide +kernel)
theorem w_1150 : (Cond.code yX9_goOn cX9_goOn (3 : Nat) (Option.none : Option FieldType)) ∈ TB := tb_of (List.mem_of_getElem? (i := 1150) (by decide +kernel)) (by decide +kernel)
theorem w_1151 : (Cond.methodLink "RamStationLaw" (186 : Nat) yX9_drawnIn) ∈ TB := tb_of (List.mem_of_getElem? (i := 1151) (by decide +kernel)) (by decide +kernel)
theorem w_1152 : (Cond.instanceMethod yX9_drawnIn) ∈ TB := tb_of (List.mem_of_getElem? (i := 1152) (by decide +kernel)) (by decide +kernel)
theorem w_1153 : (Cond.selects "RamStationModel" yX9_drawnIn yX9_drawnIn) ∈ TB := tb_of (List.mem_of_getElem? (i := 1153) (by decide +kernel)) (by decide +kernel)
theorem w_1154 : (Cond.code yX9_drawnIn cX9_drawnIn (4 : Nat) (Option.some FieldType.int)) ∈ TB := tb_of (List.mem_of_getElem? (i := 1154) (by decide +kernel)) (by decide +kernel)
theorem w_1155 : (Cond.methodLink "RamStationLaw" (190 : Nat) yX9_period) ∈ TB := tb_of (List.mem_of_getElem? (i := 1155) (by decide +kernel)) (by decide +kernel)
theorem w_1156 : (Cond.instanceMethod yX9_period) ∈ TB := tb_of (List.mem_of_getElem? (i := 1156) (by decide +kernel)) (by decide +kernel)
theorem w_1157 : (Cond.selects "RamStationModel" yX9_period yX9_period) ∈ TB := tb_of (List.mem_of_getElem? (i := 1157) (by decide +kernel)) (by decide +kernel)
theorem w_1158 : (Cond.code yX9_period cX9_period (5 : Nat) (Option.some FieldType.int)) ∈ TB := tb_of (List.mem_of_getElem? (i := 1158) (by decide +kernel)) (by decide +kernel)
theorem w_1159 : (Cond.methodLink "RamStationLaw" (194 : Nat) yX9_bestLength) ∈ TB := tb_of (List.mem_of_getElem? (i := 1159) (by decide +kernel)) (by decide +kernel)
theorem w_1160 : (Cond.instanceMethod yX9_bestLength) ∈ TB := tb_of (List.mem_of_getElem? (i := 1160) (by decide +kernel)) (by decide +kernel)
theorem w_1161 : (Cond.selects "RamStationModel" yX9_bestLength yX9_bestLength) ∈ TB := tb_of (List.mem_of_getElem? (i := 1161) (by decide +kernel)) (by decide +kernel)
theorem w_1162 : (Cond.code yX9_bestLength cX9_bestLength (4 : Nat) (Option.some FieldType.int)) ∈ TB := tb_of (List.mem_of_getElem? (i := 1162) (by decide +kernel)) (by decide +kernel)
theorem w_1163 : (Cond.methodLink "RamStationModel" (210 : Nat) yX9_best) ∈ TB := tb_of (List.mem_of_getElem? (i := 1163) (by decide +kernel)) (by decide +kernel)
theorem w_1165 : (Cond.instanceMethod yX9_best) ∈ TB := tb_of (List.mem_of_getElem? (i := 1165) (by decide +kernel)) (by decide +kernel)
theorem w_1166 : (Cond.code yX9_best cX9_best (8 : Nat) (Option.some FieldType.int)) ∈ TB := tb_of (List.mem_of_getElem? (i := 1166) (by decide +kernel)) (by decide +kernel)
theorem w_1167 : (Cond.methodLink "RamStationLaw" (198 : Nat) yX9_bestSetting) ∈ TB := tb_of (List.mem_of_getElem? (i := 1167) (by decide +kernel)) (by decide +kernel)
theorem w_1168 : (Cond.instanceMethod yX9_bestSetting) ∈ TB := tb_of (List.mem_of_getElem? (i := 1168) (by decide +kernel)) (by decide +kernel)
theorem w_1169 : (Cond.selects "RamStationModel" yX9_bestSetting yX9_bestSetting) ∈ TB := tb_of (List.mem_of_getElem? (i := 1169) (by decide +kernel)) (by decide +kernel)
theorem w_1170 : (Cond.code yX9_bestSetting cX9_bestSetting (4 : Nat) (Option.some FieldType.int)) ∈ TB := tb_of (List.mem_of_getElem? (i := 1170) (by decide +kernel)) (by decide +kernel)
theorem w_0 : (Cond.selects "RamStation" yX8_keepState yX8_keepState) ∈ TB := tb_of (List.mem_of_getElem? (i := 0) (by decide +kernel)) (by decide +kernel)
theorem w_1 : (Cond.selects "RamStation" yX8_tickStation yX8_tickStation) ∈ TB := tb_of (List.mem_of_getElem? (i := 1) (by decide +kernel)) (by decide +kernel)
theorem w_2 : (Cond.selects "RamStation" yX8_noteIncidents yX8_noteIncidents) ∈ TB := tb_of (List.mem_of_getElem? (i := 2) (by decide +kernel)) (by decide +kernel)
theorem w_3 : (Cond.selects "RamStation" yX8_perform yX8_perform) ∈ TB := tb_of (List.mem_of_getElem? (i := 3) (by decide +kernel)) (by decide +kernel)
theorem w_4 : (Cond.selects "RamStation" yX8_valveKindOf yX8_valveKindOf) ∈ TB := tb_of (List.mem_of_getElem? (i := 4) (by decide +kernel)) (by decide +kernel)
theorem w_5 : (Cond.selects "RamStation" yX8_tickTrial yX8_tickTrial) ∈ TB := tb_of (List.mem_of_getElem? (i := 5) (by decide +kernel)) (by decide +kernel)
theorem w_6 : (Cond.selects "RamStation" yX8_trialDelivery yX8_trialDelivery) ∈ TB := tb_of (List.mem_of_getElem? (i := 6) (by decide +kernel)) (by decide +kernel)
theorem w_7 : (Cond.selects "RamStation" yX8_ticksFromSlamLikeLast yX8_ticksFromSlamLikeLast) ∈ TB := tb_of (List.mem_of_getElem? (i := 7) (by decide +kernel)) (by decide +kernel)
theorem w_8 : (Cond.selects "RamStation" yX8_deliveryFromRest yX8_deliveryFromRest) ∈ TB := tb_of (List.mem_of_getElem? (i := 8) (by decide +kernel)) (by decide +kernel)
theorem w_9 : (Cond.selects "RamStationModel" yX9_record yX9_record) ∈ TB := tb_of (List.mem_of_getElem? (i := 9) (by decide +kernel)) (by decide +kernel)
theorem w_10 : (Cond.selects "RamStationModel" yX9_valveRefused yX9_valveRefused) ∈ TB := tb_of (List.mem_of_getElem? (i := 10) (by decide +kernel)) (by decide +kernel)
theorem w_11 : (Cond.selects "RamStationModel" yX9_isPump yX9_isPump) ∈ TB := tb_of (List.mem_of_getElem? (i := 11) (by decide +kernel)) (by decide +kernel)
theorem w_12 : (Cond.selects "RamStationModel" yX9_valveNow yX9_valveNow) ∈ TB := tb_of (List.mem_of_getElem? (i := 12) (by decide +kernel)) (by decide +kernel)
theorem w_13 : (Cond.selects "RamStationModel" yX9_fill yX9_fill) ∈ TB := tb_of (List.mem_of_getElem? (i := 13) (by decide +kernel)) (by decide +kernel)
theorem w_14 : (Cond.selects "RamStationModel" yX9_inflowNow yX9_inflowNow) ∈ TB := tb_of (List.mem_of_getElem? (i := 14) (by decide +kernel)) (by decide +kernel)
theorem w_15 : (Cond.selects "RamStationModel" yX9_runRefused yX9_runRefused) ∈ TB := tb_of (List.mem_of_getElem? (i := 15) (by decide +kernel)) (by decide +kernel)
theorem w_16 : (Cond.selects "RamStationModel" yX9_startNow yX9_startNow) ∈ TB := tb_of (List.mem_of_getElem? (i := 16) (by decide +kernel)) (by decide +kernel)
theorem w_17 : (Cond.selects "RamStationModel" yX9_running yX9_running) ∈ TB := tb_of (List.mem_of_getElem? (i := 17) (by decide +kernel)) (by decide +kernel)
theorem w_18 : (Cond.selects "RamStationModel" yX9_stopNow yX9_stopNow) ∈ TB := tb_of (List.mem_of_getElem? (i := 18) (by decide +kernel)) (by decide +kernel)
theorem w_19 : (Cond.selects "RamStationModel" yX9_open yX9_open) ∈ TB := tb_of (List.mem_of_getElem? (i := 19) (by decide +kernel)) (by decide +kernel)
theorem w_20 : (Cond.selects "RamStationModel" yX9_tankRefused yX9_tankRefused) ∈ TB := tb_of (List.mem_of_getElem? (i := 20) (by decide +kernel)) (by decide +kernel)
theorem w_21 : (Cond.selects "RamStationModel" yX9_tankNow yX9_tankNow) ∈ TB := tb_of (List.mem_of_getElem? (i := 21) (by decide +kernel)) (by decide +kernel)
theorem w_22 : (Cond.selects "RamStationModel" yX9_passRefused yX9_passRefused) ∈ TB := tb_of (List.mem_of_getElem? (i := 22) (by decide +kernel)) (by decide +kernel)
theorem w_23 : (Cond.selects "RamStationModel" yX9_passNow yX9_passNow) ∈ TB := tb_of (List.mem_of_getElem? (i := 23) (by decide +kernel)) (by decide +kernel)
theorem w_24 : (Cond.selects "RamStationModel" yX9_tick yX9_tick) ∈ TB := tb_of (List.mem_of_getElem? (i := 24) (by decide +kernel)) (by decide +kernel)
theorem w_25 : (Cond.selects "RamStationModel" yX9_incident yX9_incident) ∈ TB := tb_of (List.mem_of_getElem? (i := 25) (by decide +kernel)) (by decide +kernel)
theorem w_26 : (Cond.selects "RamStationModel" yX9_gain yX9_gain) ∈ TB := tb_of (List.mem_of_getElem? (i := 26) (by decide +kernel)) (by decide +kernel)
theorem w_27 : (Cond.selects "RamStationModel" yX9_slamsBy yX9_slamsBy) ∈ TB := tb_of (List.mem_of_getElem? (i := 27) (by decide +kernel)) (by decide +kernel)
theorem w_28 : (Cond.selects "RamStationModel" yX9_slam yX9_slam) ∈ TB := tb_of (List.mem_of_getElem? (i := 28) (by decide +kernel)) (by decide +kernel)
theorem w_29 : (Cond.selects "RamStationModel" yX9_addInterval yX9_addInterval) ∈ TB := tb_of (List.mem_of_getElem? (i := 29) (by decide +kernel)) (by decide +kernel)
theorem w_30 : (Cond.selects "RamStationModel" yX9_leastSpace yX9_leastSpace) ∈ TB := tb_of (List.mem_of_getElem? (i := 30) (by decide +kernel)) (by decide +kernel)
theorem w_31 : (Cond.selects "RamStationModel" yX9_push yX9_push) ∈ TB := tb_of (List.mem_of_getElem? (i := 31) (by decide +kernel)) (by decide +kernel)
theorem w_32 : (Cond.selects "RamStationModel" yX9_head yX9_head) ∈ TB := tb_of (List.mem_of_getElem? (i := 32) (by decide +kernel)) (by decide +kernel)
theorem w_33 : (Cond.selects "RamStationModel" yX9_deliver yX9_deliver) ∈ TB := tb_of (List.mem_of_getElem? (i := 33) (by decide +kernel)) (by decide +kernel)
theorem w_34 : (Cond.selects "RamStationModel" yX9_addTrace yX9_addTrace) ∈ TB := tb_of (List.mem_of_getElem? (i := 34) (by decide +kernel)) (by decide +kernel)
theorem w_35 : (Cond.selects "RamStationModel" yX9_check yX9_check) ∈ TB := tb_of (List.mem_of_getElem? (i := 35) (by decide +kernel)) (by decide +kernel)
theorem w_36 : (Cond.selects "RamStationModel" yX9_readCommand yX9_readCommand) ∈ TB := tb_of (List.mem_of_getElem? (i := 36) (by decide +kernel)) (by decide +kernel)
theorem w_37 : (Cond.selects "RamStationModel" yX9_digit yX9_digit) ∈ TB := tb_of (List.mem_of_getElem? (i := 37) (by decide +kernel)) (by decide +kernel)
theorem w_38 : (Cond.selects "RamStationModel" yX9_isDigit yX9_isDigit) ∈ TB := tb_of (List.mem_of_getElem? (i := 38) (by decide +kernel)) (by decide +kernel)
theorem w_39 : (Cond.selects "RamStationModel" yX9_sign yX9_sign) ∈ TB := tb_of (List.mem_of_getElem? (i := 39) (by decide +kernel)) (by decide +kernel)
theorem w_40 : (Cond.selects "RamStationModel" yX9_number yX9_number) ∈ TB := tb_of (List.mem_of_getElem? (i := 40) (by decide +kernel)) (by decide +kernel)
theorem w_41 : (Cond.selects "RamStationModel" yX9_perform yX9_perform) ∈ TB := tb_of (List.mem_of_getElem? (i := 41) (by decide +kernel)) (by decide +kernel)
theorem w_42 : (Cond.selects "RamStationModel" yX9_place yX9_place) ∈ TB := tb_of (List.mem_of_getElem? (i := 42) (by decide +kernel)) (by decide +kernel)
theorem w_43 : (Cond.selects "RamStationModel" yX9_told yX9_told) ∈ TB := tb_of (List.mem_of_getElem? (i := 43) (by decide +kernel)) (by decide +kernel)
theorem w_44 : (Cond.selects "RamStationModel" yX9_kept yX9_kept) ∈ TB := tb_of (List.mem_of_getElem? (i := 44) (by decide +kernel)) (by decide +kernel)
theorem w_45 : (Cond.selects "RamStationModel" yX9_efficiencyOf yX9_efficiencyOf) ∈ TB := tb_of (List.mem_of_getElem? (i := 45) (by decide +kernel)) (by decide +kernel)
theorem w_46 : (Cond.selects "RamStationModel" yX9_beginTrial yX9_beginTrial) ∈ TB := tb_of (List.mem_of_getElem? (i := 46) (by decide +kernel)) (by decide +kernel)
theorem w_47 : (Cond.selects "RamStationModel" yX9_trialRefused yX9_trialRefused) ∈ TB := tb_of (List.mem_of_getElem? (i := 47) (by decide +kernel)) (by decide +kernel)
theorem w_48 : (Cond.selects "RamStationModel" yX9_goOn yX9_goOn) ∈ TB := tb_of (List.mem_of_getElem? (i := 48) (by decide +kernel)) (by decide +kernel)
theorem w_49 : (Cond.selects "RamStationModel" yX9_best yX9_best) ∈ TB := tb_of (List.mem_of_getElem? (i := 49) (by decide +kernel)) (by decide +kernel)
theorem in_X0 : ∀ w ∈ u_ws RX0 TX0 5, w ∈ TB := by
  intro w h
  obtain ⟨k, hk, rfl⟩ := List.mem_map.mp h
  have hk := List.mem_range.mp hk
  match k, hk with
  | 0, _ => exact w_100
  | 1, _ => exact w_102
  | 2, _ => exact w_104
  | 3, _ => exact w_106
  | 4, _ => exact w_108
  | k + 5, h => exact absurd h (by omega)
theorem in_X1 : ∀ w ∈ u_ws RX1 TX1 2, w ∈ TB := by
  intro w h
  obtain ⟨k, hk, rfl⟩ := List.mem_map.mp h
  have hk := List.mem_range.mp hk
  match k, hk with
  | 0, _ => exact w_270
  | 1, _ => exact w_272
  | k + 2, h => exact absurd h (by omega)
theorem in_X2 : ∀ w ∈ u_ws RX2 TX2 6, w ∈ TB := by
  intro w h
  obtain ⟨k, hk, rfl⟩ := List.mem_map.mp h
  have hk := List.mem_range.mp hk
  match k, hk with
  | 0, _ => exact w_135
  | 1, _ => exact w_137
  | 2, _ => exact w_139
  | 3, _ => exact w_141
  | 4, _ => exact w_143
  | 5, _ => exact w_145
  | k + 6, h => exact absurd h (by omega)
theorem in_X3 : ∀ w ∈ u_ws RX3 TX3 4, w ∈ TB := by
  intro w h
  obtain ⟨k, hk, rfl⟩ := List.mem_map.mp h
  have hk := List.mem_range.mp hk
  match k, hk with
  | 0, _ => exact w_292
  | 1, _ => exact w_294
  | 2, _ => exact w_296
  | 3, _ => exact w_298
  | k + 4, h => exact absurd h (by omega)
theorem in_X4 : ∀ w ∈ u_ws RX4 TX4 17, w ∈ TB := by
  intro w h
  obtain ⟨k, hk, rfl⟩ := List.mem_map.mp h
  have hk := List.mem_range.mp hk
  match k, hk with
  | 0, _ => exact w_199
  | 1, _ => exact w_201
  | 2, _ => exact w_203
  | 3, _ => exact w_205
  | 4, _ => exact w_207
  | 5, _ => exact w_209
  | 6, _ => exact w_211
  | 7, _ => exact w_213
  | 8, _ => exact w_215
  | 9, _ => exact w_217
  | 10, _ => exact w_219
  | 11, _ => exact w_221
  | 12, _ => exact w_223
  | 13, _ => exact w_225
  | 14, _ => exact w_227
  | 15, _ => exact w_229
  | 16, _ => exact w_231
  | k + 17, h => exact absurd h (by omega)
theorem in_X5 : ∀ w ∈ u_ws RX5 TX5 5, w ∈ TB := by
  intro w h
  obtain ⟨k, hk, rfl⟩ := List.mem_map.mp h
  have hk := List.mem_range.mp hk
  match k, hk with
  | 0, _ => exact w_322
  | 1, _ => exact w_324
  | 2, _ => exact w_326
  | 3, _ => exact w_328
  | 4, _ => exact w_330
  | k + 5, h => exact absurd h (by omega)
theorem in_X6 : ∀ w ∈ u_ws RX6 TX6 3, w ∈ TB := by
  intro w h
  obtain ⟨k, hk, rfl⟩ := List.mem_map.mp h
  have hk := List.mem_range.mp hk
  match k, hk with
  | 0, _ => exact w_160
  | 1, _ => exact w_162
  | 2, _ => exact w_164
  | k + 3, h => exact absurd h (by omega)
theorem in_X7 : ∀ w ∈ u_ws RX7 TX7 6, w ∈ TB := by
  intro w h
  obtain ⟨k, hk, rfl⟩ := List.mem_map.mp h
  have hk := List.mem_range.mp hk
  match k, hk with
  | 0, _ => exact w_246
  | 1, _ => exact w_248
  | 2, _ => exact w_250
  | 3, _ => exact w_252
  | 4, _ => exact w_254
  | 5, _ => exact w_256
  | k + 6, h => exact absurd h (by omega)
theorem in_X8 : ∀ w ∈ u_ws RX8 TX8 11, w ∈ TB := by
  intro w h
  obtain ⟨k, hk, rfl⟩ := List.mem_map.mp h
  have hk := List.mem_range.mp hk
  match k, hk with
  | 0, _ => exact w_346
  | 1, _ => exact w_348
  | 2, _ => exact w_350
  | 3, _ => exact w_352
  | 4, _ => exact w_354
  | 5, _ => exact w_356
  | 6, _ => exact w_358
  | 7, _ => exact w_360
  | 8, _ => exact w_362
  | 9, _ => exact w_364
  | 10, _ => exact w_366
  | k + 11, h => exact absurd h (by omega)
theorem in_X9 : ∀ w ∈ u_ws RX9 TX9 19, w ∈ TB := by
  intro w h
  obtain ⟨k, hk, rfl⟩ := List.mem_map.mp h
  have hk := List.mem_range.mp hk
  match k, hk with
  | 0, _ => exact w_780
  | 1, _ => exact w_782
  | 2, _ => exact w_784
  | 3, _ => exact w_786
  | 4, _ => exact w_788
  | 5, _ => exact w_790
  | 6, _ => exact w_792
  | 7, _ => exact w_794
  | 8, _ => exact w_796
  | 9, _ => exact w_798
  | 10, _ => exact w_800
  | 11, _ => exact w_802
  | 12, _ => exact w_804
  | 13, _ => exact w_806
  | 14, _ => exact w_808
  | 15, _ => exact w_810
  | 16, _ => exact w_812
  | 17, _ => exact w_814
  | 18, _ => exact w_816
  | k + 19, h => exact absurd h (by omega)
end
section
theorem dX0_init_0 : decode cX0_init 0 = .ok (.aload_n 0, 1) := by decide +kernel
theorem dX0_init_1 : decode cX0_init 1 = .ok (.invokespecial 1, 3) := by decide +kernel
theorem dX0_init_4 : decode cX0_init 4 = .ok (.aload_n 0, 1) := by decide +kernel
theorem dX0_init_5 : decode cX0_init 5 = .ok (.sipush 400, 3) := by decide +kernel
theorem dX0_init_8 : decode cX0_init 8 = .ok (.putfield 7, 3) := by decide +kernel
theorem dX0_init_11 : decode cX0_init 11 = .ok (.aload_n 0, 1) := by decide +kernel
theorem dX0_init_12 : decode cX0_init 12 = .ok (.bipush 40, 2) := by decide +kernel
theorem dX0_init_14 : decode cX0_init 14 = .ok (.putfield 13, 3) := by decide +kernel
theorem dX0_init_17 : decode cX0_init 17 = .ok (.aload_n 0, 1) := by decide +kernel
theorem dX0_init_18 : decode cX0_init 18 = .ok (.sipush 400, 3) := by decide +kernel
theorem dX0_init_21 : decode cX0_init 21 = .ok (.putfield 16, 3) := by decide +kernel
theorem dX0_init_24 : decode cX0_init 24 = .ok (.return_, 1) := by decide +kernel
theorem dX0_renew_0 : decode cX0_renew 0 = .ok (.aload_n 0, 1) := by decide +kernel
theorem dX0_renew_1 : decode cX0_renew 1 = .ok (.iload_n 1, 1) := by decide +kernel
theorem dX0_renew_2 : decode cX0_renew 2 = .ok (.putfield 7, 3) := by decide +kernel
theorem dX0_renew_5 : decode cX0_renew 5 = .ok (.aload_n 0, 1) := by decide +kernel
theorem dX0_renew_6 : decode cX0_renew 6 = .ok (.iload_n 1, 1) := by decide +kernel
theorem dX0_renew_7 : decode cX0_renew 7 = .ok (.bipush 10, 2) := by decide +kernel
theorem dX0_renew_9 : decode cX0_renew 9 = .ok (.idiv, 1) := by decide +kernel
theorem dX0_renew_10 : decode cX0_renew 10 = .ok (.putfield 13, 3) := by decide +kernel
theorem dX0_renew_13 : decode cX0_renew 13 = .ok (.aload_n 0, 1) := by decide +kernel
theorem dX0_renew_14 : decode cX0_renew 14 = .ok (.iload_n 2, 1) := by decide +kernel
theorem dX0_renew_15 : decode cX0_renew 15 = .ok (.putfield 19, 3) := by decide +kernel
theorem dX0_renew_18 : decode cX0_renew 18 = .ok (.aload_n 0, 1) := by decide +kernel
theorem dX0_renew_19 : decode cX0_renew 19 = .ok (.iconst 0, 1) := by decide +kernel
theorem dX0_renew_20 : decode cX0_renew 20 = .ok (.putfield 23, 3) := by decide +kernel
theorem dX0_renew_23 : decode cX0_renew 23 = .ok (.aload_n 0, 1) := by decide +kernel
theorem dX0_renew_24 : decode cX0_renew 24 = .ok (.iload_n 1, 1) := by decide +kernel
theorem dX0_renew_25 : decode cX0_renew 25 = .ok (.putfield 16, 3) := by decide +kernel
theorem dX0_renew_28 : decode cX0_renew 28 = .ok (.return_, 1) := by decide +kernel
theorem dX0_copyFrom_0 : decode cX0_copyFrom 0 = .ok (.aload_n 0, 1) := by decide +kernel
theorem dX0_copyFrom_1 : decode cX0_copyFrom 1 = .ok (.aload_n 1, 1) := by decide +kernel
theorem dX0_copyFrom_2 : decode cX0_copyFrom 2 = .ok (.getfield 7, 3) := by decide +kernel
theorem dX0_copyFrom_5 : decode cX0_copyFrom 5 = .ok (.putfield 7, 3) := by decide +kernel
theorem dX0_copyFrom_8 : decode cX0_copyFrom 8 = .ok (.aload_n 0, 1) := by decide +kernel
theorem dX0_copyFrom_9 : decode cX0_copyFrom 9 = .ok (.aload_n 1, 1) := by decide +kernel
theorem dX0_copyFrom_10 : decode cX0_copyFrom 10 = .ok (.getfield 13, 3) := by decide +kernel
theorem dX0_copyFrom_13 : decode cX0_copyFrom 13 = .ok (.putfield 13, 3) := by decide +kernel
theorem dX0_copyFrom_16 : decode cX0_copyFrom 16 = .ok (.aload_n 0, 1) := by decide +kernel
theorem dX0_copyFrom_17 : decode cX0_copyFrom 17 = .ok (.aload_n 1, 1) := by decide +kernel
theorem dX0_copyFrom_18 : decode cX0_copyFrom 18 = .ok (.getfield 19, 3) := by decide +kernel
theorem dX0_copyFrom_21 : decode cX0_copyFrom 21 = .ok (.putfield 19, 3) := by decide +kernel
theorem dX0_copyFrom_24 : decode cX0_copyFrom 24 = .ok (.aload_n 0, 1) := by decide +kernel
theorem dX0_copyFrom_25 : decode cX0_copyFrom 25 = .ok (.aload_n 1, 1) := by decide +kernel
theorem dX0_copyFrom_26 : decode cX0_copyFrom 26 = .ok (.getfield 23, 3) := by decide +kernel
theorem dX0_copyFrom_29 : decode cX0_copyFrom 29 = .ok (.putfield 23, 3) := by decide +kernel
theorem dX0_copyFrom_32 : decode cX0_copyFrom 32 = .ok (.aload_n 0, 1) := by decide +kernel
theorem dX0_copyFrom_33 : decode cX0_copyFrom 33 = .ok (.aload_n 1, 1) := by decide +kernel
theorem dX0_copyFrom_34 : decode cX0_copyFrom 34 = .ok (.getfield 16, 3) := by decide +kernel
theorem dX0_copyFrom_37 : decode cX0_copyFrom 37 = .ok (.putfield 16, 3) := by decide +kernel
theorem dX0_copyFrom_40 : decode cX0_copyFrom 40 = .ok (.return_, 1) := by decide +kernel
theorem dX0_head_0 : decode cX0_head 0 = .ok (.aload_n 0, 1) := by decide +kernel
theorem dX0_head_1 : decode cX0_head 1 = .ok (.getfield 7, 3) := by decide +kernel
theorem dX0_head_4 : decode cX0_head 4 = .ok (.aload_n 0, 1) := by decide +kernel
theorem dX0_head_5 : decode cX0_head 5 = .ok (.getfield 23, 3) := by decide +kernel
theorem dX0_head_8 : decode cX0_head 8 = .ok (.isub, 1) := by decide +kernel
theorem dX0_head_9 : decode cX0_head 9 = .ok (.istore_n 1, 1) := by decide +kernel
theorem dX0_head_10 : decode cX0_head 10 = .ok (.iload_n 1, 1) := by decide +kernel
theorem dX0_head_11 : decode cX0_head 11 = .ok (.iconst 1, 1) := by decide +kernel
theorem dX0_head_12 : decode cX0_head 12 = .ok (.if_icmp .ge 7, 3) := by decide +kernel
theorem dX0_head_15 : decode cX0_head 15 = .ok (.iconst 0, 1) := by decide +kernel
theorem dX0_head_16 : decode cX0_head 16 = .ok (.goto 19, 3) := by decide +kernel
theorem dX0_head_19 : decode cX0_head 19 = .ok (.bipush 100, 2) := by decide +kernel
theorem dX0_head_21 : decode cX0_head 21 = .ok (.aload_n 0, 1) := by decide +kernel
theorem dX0_head_22 : decode cX0_head 22 = .ok (.getfield 16, 3) := by decide +kernel
theorem dX0_head_25 : decode cX0_head 25 = .ok (.imul, 1) := by decide +kernel
theorem dX0_head_26 : decode cX0_head 26 = .ok (.iload_n 1, 1) := by decide +kernel
theorem dX0_head_27 : decode cX0_head 27 = .ok (.idiv, 1) := by decide +kernel
theorem dX0_head_28 : decode cX0_head 28 = .ok (.bipush 100, 2) := by decide +kernel
theorem dX0_head_30 : decode cX0_head 30 = .ok (.isub, 1) := by decide +kernel
theorem dX0_head_31 : decode cX0_head 31 = .ok (.iconst 0, 1) := by decide +kernel
theorem dX0_head_32 : decode cX0_head 32 = .ok (.invokestatic 26, 3) := by decide +kernel
theorem dX0_head_35 : decode cX0_head 35 = .ok (.ireturn, 1) := by decide +kernel
theorem dX0_take_0 : decode cX0_take 0 = .ok (.iload_n 1, 1) := by decide +kernel
theorem dX0_take_1 : decode cX0_take 1 = .ok (.aload_n 0, 1) := by decide +kernel
theorem dX0_take_2 : decode cX0_take 2 = .ok (.getfield 7, 3) := by decide +kernel
theorem dX0_take_5 : decode cX0_take 5 = .ok (.aload_n 0, 1) := by decide +kernel
theorem dX0_take_6 : decode cX0_take 6 = .ok (.getfield 13, 3) := by decide +kernel
theorem dX0_take_9 : decode cX0_take 9 = .ok (.isub, 1) := by decide +kernel
theorem dX0_take_10 : decode cX0_take 10 = .ok (.aload_n 0, 1) := by decide +kernel
theorem dX0_take_11 : decode cX0_take 11 = .ok (.getfield 23, 3) := by decide +kernel
theorem dX0_take_14 : decode cX0_take 14 = .ok (.isub, 1) := by decide +kernel
theorem dX0_take_15 : decode cX0_take 15 = .ok (.invokestatic 32, 3) := by decide +kernel
theorem dX0_take_18 : decode cX0_take 18 = .ok (.istore_n 2, 1) := by decide +kernel
theorem dX0_take_19 : decode cX0_take 19 = .ok (.aload_n 0, 1) := by decide +kernel
theorem dX0_take_20 : decode cX0_take 20 = .ok (.dup, 1) := by decide +kernel
theorem dX0_take_21 : decode cX0_take 21 = .ok (.getfield 23, 3) := by decide +kernel
theorem dX0_take_24 : decode cX0_take 24 = .ok (.iload_n 2, 1) := by decide +kernel
theorem dX0_take_25 : decode cX0_take 25 = .ok (.iadd, 1) := by decide +kernel
theorem dX0_take_26 : decode cX0_take 26 = .ok (.putfield 23, 3) := by decide +kernel
theorem dX0_take_29 : decode cX0_take 29 = .ok (.iload_n 2, 1) := by decide +kernel
theorem dX0_take_30 : decode cX0_take 30 = .ok (.ireturn, 1) := by decide +kernel
theorem dX0_changeAir_0 : decode cX0_changeAir 0 = .ok (.aload_n 0, 1) := by decide +kernel
theorem dX0_changeAir_1 : decode cX0_changeAir 1 = .ok (.getfield 19, 3) := by decide +kernel
theorem dX0_changeAir_4 : decode cX0_changeAir 4 = .ok (.ifCond .eq 23, 3) := by decide +kernel
theorem dX0_changeAir_7 : decode cX0_changeAir 7 = .ok (.aload_n 0, 1) := by decide +kernel
theorem dX0_changeAir_8 : decode cX0_changeAir 8 = .ok (.aload_n 0, 1) := by decide +kernel
theorem dX0_changeAir_9 : decode cX0_changeAir 9 = .ok (.getfield 16, 3) := by decide +kernel
theorem dX0_changeAir_12 : decode cX0_changeAir 12 = .ok (.iconst 2, 1) := by decide +kernel
theorem dX0_changeAir_13 : decode cX0_changeAir 13 = .ok (.iadd, 1) := by decide +kernel
theorem dX0_changeAir_14 : decode cX0_changeAir 14 = .ok (.aload_n 0, 1) := by decide +kernel
theorem dX0_changeAir_15 : decode cX0_changeAir 15 = .ok (.getfield 7, 3) := by decide +kernel
theorem dX0_changeAir_18 : decode cX0_changeAir 18 = .ok (.invokestatic 32, 3) := by decide +kernel
theorem dX0_changeAir_21 : decode cX0_changeAir 21 = .ok (.putfield 16, 3) := by decide +kernel
theorem dX0_changeAir_24 : decode cX0_changeAir 24 = .ok (.goto 20, 3) := by decide +kernel
theorem dX0_changeAir_27 : decode cX0_changeAir 27 = .ok (.aload_n 0, 1) := by decide +kernel
theorem dX0_changeAir_28 : decode cX0_changeAir 28 = .ok (.aload_n 0, 1) := by decide +kernel
theorem dX0_changeAir_29 : decode cX0_changeAir 29 = .ok (.getfield 16, 3) := by decide +kernel
theorem dX0_changeAir_32 : decode cX0_changeAir 32 = .ok (.iconst 1, 1) := by decide +kernel
theorem dX0_changeAir_33 : decode cX0_changeAir 33 = .ok (.isub, 1) := by decide +kernel
theorem dX0_changeAir_34 : decode cX0_changeAir 34 = .ok (.aload_n 0, 1) := by decide +kernel
theorem dX0_changeAir_35 : decode cX0_changeAir 35 = .ok (.getfield 13, 3) := by decide +kernel
theorem dX0_changeAir_38 : decode cX0_changeAir 38 = .ok (.invokestatic 26, 3) := by decide +kernel
theorem dX0_changeAir_41 : decode cX0_changeAir 41 = .ok (.putfield 16, 3) := by decide +kernel
theorem dX0_changeAir_44 : decode cX0_changeAir 44 = .ok (.return_, 1) := by decide +kernel
theorem dX1_init_0 : decode cX1_init 0 = .ok (.aload_n 0, 1) := by decide +kernel
theorem dX1_init_1 : decode cX1_init 1 = .ok (.invokespecial 3, 3) := by decide +kernel
theorem dX1_init_4 : decode cX1_init 4 = .ok (.aload_n 0, 1) := by decide +kernel
theorem dX1_init_5 : decode cX1_init 5 = .ok (.bipush 40, 2) := by decide +kernel
theorem dX1_init_7 : decode cX1_init 7 = .ok (.newarray .char, 2) := by decide +kernel
theorem dX1_init_9 : decode cX1_init 9 = .ok (.putfield 9, 3) := by decide +kernel
theorem dX1_init_12 : decode cX1_init 12 = .ok (.return_, 1) := by decide +kernel
theorem dX1_signAt_0 : decode cX1_signAt 0 = .ok (.iload_n 1, 1) := by decide +kernel
theorem dX1_signAt_1 : decode cX1_signAt 1 = .ok (.aload_n 0, 1) := by decide +kernel
theorem dX1_signAt_2 : decode cX1_signAt 2 = .ok (.getfield 15, 3) := by decide +kernel
theorem dX1_signAt_5 : decode cX1_signAt 5 = .ok (.if_icmp .ge 18, 3) := by decide +kernel
theorem dX1_signAt_8 : decode cX1_signAt 8 = .ok (.iload_n 1, 1) := by decide +kernel
theorem dX1_signAt_9 : decode cX1_signAt 9 = .ok (.iconst 0, 1) := by decide +kernel
theorem dX1_signAt_10 : decode cX1_signAt 10 = .ok (.aload_n 0, 1) := by decide +kernel
theorem dX1_signAt_11 : decode cX1_signAt 11 = .ok (.getfield 9, 3) := by decide +kernel
theorem dX1_signAt_14 : decode cX1_signAt 14 = .ok (.arraylength, 1) := by decide +kernel
theorem dX1_signAt_15 : decode cX1_signAt 15 = .ok (.iconst 1, 1) := by decide +kernel
theorem dX1_signAt_16 : decode cX1_signAt 16 = .ok (.isub, 1) := by decide +kernel
theorem dX1_signAt_17 : decode cX1_signAt 17 = .ok (.invokestatic 19, 3) := by decide +kernel
theorem dX1_signAt_20 : decode cX1_signAt 20 = .ok (.ifCond .eq 7, 3) := by decide +kernel
theorem dX1_signAt_23 : decode cX1_signAt 23 = .ok (.iconst 0, 1) := by decide +kernel
theorem dX1_signAt_24 : decode cX1_signAt 24 = .ok (.goto 9, 3) := by decide +kernel
theorem dX1_signAt_27 : decode cX1_signAt 27 = .ok (.aload_n 0, 1) := by decide +kernel
theorem dX1_signAt_28 : decode cX1_signAt 28 = .ok (.getfield 9, 3) := by decide +kernel
theorem dX1_signAt_31 : decode cX1_signAt 31 = .ok (.iload_n 1, 1) := by decide +kernel
theorem dX1_signAt_32 : decode cX1_signAt 32 = .ok (.caload, 1) := by decide +kernel
theorem dX1_signAt_33 : decode cX1_signAt 33 = .ok (.ireturn, 1) := by decide +kernel
theorem dX1_commandStartsAt_0 : decode cX1_commandStartsAt 0 = .ok (.iload_n 1, 1) := by decide +kernel
theorem dX1_commandStartsAt_1 : decode cX1_commandStartsAt 1 = .ok (.ifCond .eq 15, 3) := by decide +kernel
theorem dX1_commandStartsAt_4 : decode cX1_commandStartsAt 4 = .ok (.aload_n 0, 1) := by decide +kernel
theorem dX1_commandStartsAt_5 : decode cX1_commandStartsAt 5 = .ok (.iload_n 1, 1) := by decide +kernel
theorem dX1_commandStartsAt_6 : decode cX1_commandStartsAt 6 = .ok (.iconst 1, 1) := by decide +kernel
theorem dX1_commandStartsAt_7 : decode cX1_commandStartsAt 7 = .ok (.isub, 1) := by decide +kernel
theorem dX1_commandStartsAt_8 : decode cX1_commandStartsAt 8 = .ok (.invokevirtual 23, 3) := by decide +kernel
theorem dX1_commandStartsAt_11 : decode cX1_commandStartsAt 11 = .ok (.bipush 59, 2) := by decide +kernel
theorem dX1_commandStartsAt_13 : decode cX1_commandStartsAt 13 = .ok (.if_icmp .ne 7, 3) := by decide +kernel
theorem dX1_commandStartsAt_16 : decode cX1_commandStartsAt 16 = .ok (.iconst 1, 1) := by decide +kernel
theorem dX1_commandStartsAt_17 : decode cX1_commandStartsAt 17 = .ok (.goto 4, 3) := by decide +kernel
theorem dX1_commandStartsAt_20 : decode cX1_commandStartsAt 20 = .ok (.iconst 0, 1) := by decide +kernel
theorem dX1_commandStartsAt_21 : decode cX1_commandStartsAt 21 = .ok (.ireturn, 1) := by decide +kernel
theorem dX1_numberAt_0 : decode cX1_numberAt 0 = .ok (.iconst 0, 1) := by decide +kernel
theorem dX1_numberAt_1 : decode cX1_numberAt 1 = .ok (.istore_n 2, 1) := by decide +kernel
theorem dX1_numberAt_2 : decode cX1_numberAt 2 = .ok (.iload_n 1, 1) := by decide +kernel
theorem dX1_numberAt_3 : decode cX1_numberAt 3 = .ok (.istore_n 3, 1) := by decide +kernel
theorem dX1_numberAt_4 : decode cX1_numberAt 4 = .ok (.iload_n 3, 1) := by decide +kernel
theorem dX1_numberAt_5 : decode cX1_numberAt 5 = .ok (.iload_n 1, 1) := by decide +kernel
theorem dX1_numberAt_6 : decode cX1_numberAt 6 = .ok (.iconst 3, 1) := by decide +kernel
theorem dX1_numberAt_7 : decode cX1_numberAt 7 = .ok (.iadd, 1) := by decide +kernel
theorem dX1_numberAt_8 : decode cX1_numberAt 8 = .ok (.if_icmp .ge 34, 3) := by decide +kernel
theorem dX1_numberAt_11 : decode cX1_numberAt 11 = .ok (.aload_n 0, 1) := by decide +kernel
theorem dX1_numberAt_12 : decode cX1_numberAt 12 = .ok (.iload_n 3, 1) := by decide +kernel
theorem dX1_numberAt_13 : decode cX1_numberAt 13 = .ok (.invokevirtual 23, 3) := by decide +kernel
theorem dX1_numberAt_16 : decode cX1_numberAt 16 = .ok (.invokestatic 27, 3) := by decide +kernel
theorem dX1_numberAt_19 : decode cX1_numberAt 19 = .ok (.ifCond .eq 23, 3) := by decide +kernel
theorem dX1_numberAt_22 : decode cX1_numberAt 22 = .ok (.iload_n 2, 1) := by decide +kernel
theorem dX1_numberAt_23 : decode cX1_numberAt 23 = .ok (.bipush 10, 2) := by decide +kernel
theorem dX1_numberAt_25 : decode cX1_numberAt 25 = .ok (.imul, 1) := by decide +kernel
theorem dX1_numberAt_26 : decode cX1_numberAt 26 = .ok (.aload_n 0, 1) := by decide +kernel
theorem dX1_numberAt_27 : decode cX1_numberAt 27 = .ok (.iload_n 3, 1) := by decide +kernel
theorem dX1_numberAt_28 : decode cX1_numberAt 28 = .ok (.invokevirtual 23, 3) := by decide +kernel
theorem dX1_numberAt_31 : decode cX1_numberAt 31 = .ok (.iadd, 1) := by decide +kernel
theorem dX1_numberAt_32 : decode cX1_numberAt 32 = .ok (.bipush 48, 2) := by decide +kernel
theorem dX1_numberAt_34 : decode cX1_numberAt 34 = .ok (.isub, 1) := by decide +kernel
theorem dX1_numberAt_35 : decode cX1_numberAt 35 = .ok (.istore_n 2, 1) := by decide +kernel
theorem dX1_numberAt_36 : decode cX1_numberAt 36 = .ok (.iinc 3 1, 3) := by decide +kernel
theorem dX1_numberAt_39 : decode cX1_numberAt 39 = .ok (.goto (-35), 3) := by decide +kernel
theorem dX1_numberAt_42 : decode cX1_numberAt 42 = .ok (.iload_n 2, 1) := by decide +kernel
theorem dX1_numberAt_43 : decode cX1_numberAt 43 = .ok (.ireturn, 1) := by decide +kernel
theorem dX1_firstError_0 : decode cX1_firstError 0 = .ok (.iconst 0, 1) := by decide +kernel
theorem dX1_firstError_1 : decode cX1_firstError 1 = .ok (.istore_n 1, 1) := by decide +kernel
theorem dX1_firstError_2 : decode cX1_firstError 2 = .ok (.iconst 0, 1) := by decide +kernel
theorem dX1_firstError_3 : decode cX1_firstError 3 = .ok (.istore_n 2, 1) := by decide +kernel
theorem dX1_firstError_4 : decode cX1_firstError 4 = .ok (.iload_n 2, 1) := by decide +kernel
theorem dX1_firstError_5 : decode cX1_firstError 5 = .ok (.aload_n 0, 1) := by decide +kernel
theorem dX1_firstError_6 : decode cX1_firstError 6 = .ok (.getfield 15, 3) := by decide +kernel
theorem dX1_firstError_9 : decode cX1_firstError 9 = .ok (.if_icmp .ge 26, 3) := by decide +kernel
theorem dX1_firstError_12 : decode cX1_firstError 12 = .ok (.iload_n 1, 1) := by decide +kernel
theorem dX1_firstError_13 : decode cX1_firstError 13 = .ok (.aload_n 0, 1) := by decide +kernel
theorem dX1_firstError_14 : decode cX1_firstError 14 = .ok (.iload_n 2, 1) := by decide +kernel
theorem dX1_firstError_15 : decode cX1_firstError 15 = .ok (.invokevirtual 23, 3) := by decide +kernel
theorem dX1_firstError_18 : decode cX1_firstError 18 = .ok (.invokestatic 31, 3) := by decide +kernel
theorem dX1_firstError_21 : decode cX1_firstError 21 = .ok (.istore_n 1, 1) := by decide +kernel
theorem dX1_firstError_22 : decode cX1_firstError 22 = .ok (.iload_n 1, 1) := by decide +kernel
theorem dX1_firstError_23 : decode cX1_firstError 23 = .ok (.iconst (-1), 1) := by decide +kernel
theorem dX1_firstError_24 : decode cX1_firstError 24 = .ok (.if_icmp .ne 5, 3) := by decide +kernel
theorem dX1_firstError_27 : decode cX1_firstError 27 = .ok (.iload_n 2, 1) := by decide +kernel
theorem dX1_firstError_28 : decode cX1_firstError 28 = .ok (.ireturn, 1) := by decide +kernel
theorem dX1_firstError_29 : decode cX1_firstError 29 = .ok (.iinc 2 1, 3) := by decide +kernel
theorem dX1_firstError_32 : decode cX1_firstError 32 = .ok (.goto (-28), 3) := by decide +kernel
theorem dX1_firstError_35 : decode cX1_firstError 35 = .ok (.iload_n 1, 1) := by decide +kernel
theorem dX1_firstError_36 : decode cX1_firstError 36 = .ok (.invokestatic 35, 3) := by decide +kernel
theorem dX1_firstError_39 : decode cX1_firstError 39 = .ok (.ifCond .eq 9, 3) := by decide +kernel
theorem dX1_firstError_42 : decode cX1_firstError 42 = .ok (.sipush (-1005), 3) := by decide +kernel
theorem dX1_firstError_45 : decode cX1_firstError 45 = .ok (.goto 7, 3) := by decide +kernel
theorem dX1_firstError_48 : decode cX1_firstError 48 = .ok (.aload_n 0, 1) := by decide +kernel
theorem dX1_firstError_49 : decode cX1_firstError 49 = .ok (.getfield 15, 3) := by decide +kernel
theorem dX1_firstError_52 : decode cX1_firstError 52 = .ok (.ireturn, 1) := by decide +kernel
theorem dX1_isDigit_0 : decode cX1_isDigit 0 = .ok (.iload_n 0, 1) := by decide +kernel
theorem dX1_isDigit_1 : decode cX1_isDigit 1 = .ok (.bipush 48, 2) := by decide +kernel
theorem dX1_isDigit_3 : decode cX1_isDigit 3 = .ok (.if_icmp .lt 13, 3) := by decide +kernel
theorem dX1_isDigit_6 : decode cX1_isDigit 6 = .ok (.iload_n 0, 1) := by decide +kernel
theorem dX1_isDigit_7 : decode cX1_isDigit 7 = .ok (.bipush 57, 2) := by decide +kernel
theorem dX1_isDigit_9 : decode cX1_isDigit 9 = .ok (.if_icmp .gt 7, 3) := by decide +kernel
theorem dX1_isDigit_12 : decode cX1_isDigit 12 = .ok (.iconst 1, 1) := by decide +kernel
theorem dX1_isDigit_13 : decode cX1_isDigit 13 = .ok (.goto 4, 3) := by decide +kernel
theorem dX1_isDigit_16 : decode cX1_isDigit 16 = .ok (.iconst 0, 1) := by decide +kernel
theorem dX1_isDigit_17 : decode cX1_isDigit 17 = .ok (.ireturn, 1) := by decide +kernel
theorem dX1_mayEnd_0 : decode cX1_mayEnd 0 = .ok (.iload_n 0, 1) := by decide +kernel
theorem dX1_mayEnd_1 : decode cX1_mayEnd 1 = .ok (.iconst 5, 1) := by decide +kernel
theorem dX1_mayEnd_2 : decode cX1_mayEnd 2 = .ok (.if_icmp .eq 15, 3) := by decide +kernel
theorem dX1_mayEnd_5 : decode cX1_mayEnd 5 = .ok (.iload_n 0, 1) := by decide +kernel
theorem dX1_mayEnd_6 : decode cX1_mayEnd 6 = .ok (.bipush 6, 2) := by decide +kernel
theorem dX1_mayEnd_8 : decode cX1_mayEnd 8 = .ok (.if_icmp .eq 9, 3) := by decide +kernel
theorem dX1_mayEnd_11 : decode cX1_mayEnd 11 = .ok (.iload_n 0, 1) := by decide +kernel
theorem dX1_mayEnd_12 : decode cX1_mayEnd 12 = .ok (.bipush 7, 2) := by decide +kernel
theorem dX1_mayEnd_14 : decode cX1_mayEnd 14 = .ok (.if_icmp .ne 7, 3) := by decide +kernel
theorem dX1_mayEnd_17 : decode cX1_mayEnd 17 = .ok (.iconst 1, 1) := by decide +kernel
theorem dX1_mayEnd_18 : decode cX1_mayEnd 18 = .ok (.goto 4, 3) := by decide +kernel
theorem dX1_mayEnd_21 : decode cX1_mayEnd 21 = .ok (.iconst 0, 1) := by decide +kernel
theorem dX1_mayEnd_22 : decode cX1_mayEnd 22 = .ok (.ireturn, 1) := by decide +kernel
theorem dX1_placeAfter_0 : decode cX1_placeAfter 0 = .ok (.iload_n 1, 1) := by decide +kernel
theorem dX1_placeAfter_1 : decode cX1_placeAfter 1 = .ok (.bipush 59, 2) := by decide +kernel
theorem dX1_placeAfter_3 : decode cX1_placeAfter 3 = .ok (.if_icmp .ne 16, 3) := by decide +kernel
theorem dX1_placeAfter_6 : decode cX1_placeAfter 6 = .ok (.iload_n 0, 1) := by decide +kernel
theorem dX1_placeAfter_7 : decode cX1_placeAfter 7 = .ok (.invokestatic 35, 3) := by decide +kernel
theorem dX1_placeAfter_10 : decode cX1_placeAfter 10 = .ok (.ifCond .eq 7, 3) := by decide +kernel
theorem dX1_placeAfter_13 : decode cX1_placeAfter 13 = .ok (.iconst 0, 1) := by decide +kernel
theorem dX1_placeAfter_14 : decode cX1_placeAfter 14 = .ok (.goto 4, 3) := by decide +kernel
theorem dX1_placeAfter_17 : decode cX1_placeAfter 17 = .ok (.iconst (-1), 1) := by decide +kernel
theorem dX1_placeAfter_18 : decode cX1_placeAfter 18 = .ok (.ireturn, 1) := by decide +kernel
theorem dX1_placeAfter_19 : decode cX1_placeAfter 19 = .ok (.iload_n 0, 1) := by decide +kernel
theorem dX1_placeAfter_20 : decode cX1_placeAfter 20 = .ok (.ifCond .ne 8, 3) := by decide +kernel
theorem dX1_placeAfter_23 : decode cX1_placeAfter 23 = .ok (.iload_n 1, 1) := by decide +kernel
theorem dX1_placeAfter_24 : decode cX1_placeAfter 24 = .ok (.invokestatic 39, 3) := by decide +kernel
theorem dX1_placeAfter_27 : decode cX1_placeAfter 27 = .ok (.ireturn, 1) := by decide +kernel
theorem dX1_placeAfter_28 : decode cX1_placeAfter 28 = .ok (.iload_n 0, 1) := by decide +kernel
theorem dX1_placeAfter_29 : decode cX1_placeAfter 29 = .ok (.iconst 3, 1) := by decide +kernel
theorem dX1_placeAfter_30 : decode cX1_placeAfter 30 = .ok (.if_icmp .ne 15, 3) := by decide +kernel
theorem dX1_placeAfter_33 : decode cX1_placeAfter 33 = .ok (.iload_n 1, 1) := by decide +kernel
theorem dX1_placeAfter_34 : decode cX1_placeAfter 34 = .ok (.bipush 61, 2) := by decide +kernel
theorem dX1_placeAfter_36 : decode cX1_placeAfter 36 = .ok (.if_icmp .ne 7, 3) := by decide +kernel
theorem dX1_placeAfter_39 : decode cX1_placeAfter 39 = .ok (.iconst 4, 1) := by decide +kernel
theorem dX1_placeAfter_40 : decode cX1_placeAfter 40 = .ok (.goto 4, 3) := by decide +kernel
theorem dX1_placeAfter_43 : decode cX1_placeAfter 43 = .ok (.iconst (-1), 1) := by decide +kernel
theorem dX1_placeAfter_44 : decode cX1_placeAfter 44 = .ok (.ireturn, 1) := by decide +kernel
theorem dX1_placeAfter_45 : decode cX1_placeAfter 45 = .ok (.iload_n 1, 1) := by decide +kernel
theorem dX1_placeAfter_46 : decode cX1_placeAfter 46 = .ok (.invokestatic 27, 3) := by decide +kernel
theorem dX1_placeAfter_49 : decode cX1_placeAfter 49 = .ok (.ifCond .eq 10, 3) := by decide +kernel
theorem dX1_placeAfter_52 : decode cX1_placeAfter 52 = .ok (.iload_n 0, 1) := by decide +kernel
theorem dX1_placeAfter_53 : decode cX1_placeAfter 53 = .ok (.invokestatic 43, 3) := by decide +kernel
theorem dX1_placeAfter_56 : decode cX1_placeAfter 56 = .ok (.goto 4, 3) := by decide +kernel
theorem dX1_placeAfter_59 : decode cX1_placeAfter 59 = .ok (.iconst (-1), 1) := by decide +kernel
theorem dX1_placeAfter_60 : decode cX1_placeAfter 60 = .ok (.ireturn, 1) := by decide +kernel
theorem dX1_placeAfterLetter_0 : decode cX1_placeAfterLetter 0 = .ok (.iload_n 0, 1) := by decide +kernel
theorem dX1_placeAfterLetter_1 : decode cX1_placeAfterLetter 1 = .ok (.tableswitch 97 101 119 #[91, 97, 97, 91, 95, 97, 97, 97, 97, 97, 97, 97, 97, 91, 93, 97, 97, 97, 95], 91) := by decide +kernel
theorem dX1_placeAfterLetter_92 : decode cX1_placeAfterLetter 92 = .ok (.iconst 1, 1) := by decide +kernel
theorem dX1_placeAfterLetter_93 : decode cX1_placeAfterLetter 93 = .ok (.ireturn, 1) := by decide +kernel
theorem dX1_placeAfterLetter_94 : decode cX1_placeAfterLetter 94 = .ok (.iconst 2, 1) := by decide +kernel
theorem dX1_placeAfterLetter_95 : decode cX1_placeAfterLetter 95 = .ok (.ireturn, 1) := by decide +kernel
theorem dX1_placeAfterLetter_96 : decode cX1_placeAfterLetter 96 = .ok (.iconst 4, 1) := by decide +kernel
theorem dX1_placeAfterLetter_97 : decode cX1_placeAfterLetter 97 = .ok (.ireturn, 1) := by decide +kernel
theorem dX1_placeAfterLetter_98 : decode cX1_placeAfterLetter 98 = .ok (.iconst (-1), 1) := by decide +kernel
theorem dX1_placeAfterLetter_99 : decode cX1_placeAfterLetter 99 = .ok (.ireturn, 1) := by decide +kernel
theorem dX1_placeAfterDigit_0 : decode cX1_placeAfterDigit 0 = .ok (.iload_n 0, 1) := by decide +kernel
theorem dX1_placeAfterDigit_1 : decode cX1_placeAfterDigit 1 = .ok (.tableswitch 49 1 6 #[39, 42, 49, 44, 46, 39], 39) := by decide +kernel
theorem dX1_placeAfterDigit_40 : decode cX1_placeAfterDigit 40 = .ok (.bipush 7, 2) := by decide +kernel
theorem dX1_placeAfterDigit_42 : decode cX1_placeAfterDigit 42 = .ok (.ireturn, 1) := by decide +kernel
theorem dX1_placeAfterDigit_43 : decode cX1_placeAfterDigit 43 = .ok (.iconst 3, 1) := by decide +kernel
theorem dX1_placeAfterDigit_44 : decode cX1_placeAfterDigit 44 = .ok (.ireturn, 1) := by decide +kernel
theorem dX1_placeAfterDigit_45 : decode cX1_placeAfterDigit 45 = .ok (.iconst 5, 1) := by decide +kernel
theorem dX1_placeAfterDigit_46 : decode cX1_placeAfterDigit 46 = .ok (.ireturn, 1) := by decide +kernel
theorem dX1_placeAfterDigit_47 : decode cX1_placeAfterDigit 47 = .ok (.bipush 6, 2) := by decide +kernel
theorem dX1_placeAfterDigit_49 : decode cX1_placeAfterDigit 49 = .ok (.ireturn, 1) := by decide +kernel
theorem dX1_placeAfterDigit_50 : decode cX1_placeAfterDigit 50 = .ok (.iconst (-1), 1) := by decide +kernel
theorem dX1_placeAfterDigit_51 : decode cX1_placeAfterDigit 51 = .ok (.ireturn, 1) := by decide +kernel
theorem dX2_init_0 : decode cX2_init 0 = .ok (.aload_n 0, 1) := by decide +kernel
theorem dX2_init_1 : decode cX2_init 1 = .ok (.invokespecial 1, 3) := by decide +kernel
theorem dX2_init_4 : decode cX2_init 4 = .ok (.return_, 1) := by decide +kernel
theorem dX2_copyFrom_0 : decode cX2_copyFrom 0 = .ok (.aload_n 0, 1) := by decide +kernel
theorem dX2_copyFrom_1 : decode cX2_copyFrom 1 = .ok (.aload_n 1, 1) := by decide +kernel
theorem dX2_copyFrom_2 : decode cX2_copyFrom 2 = .ok (.getfield 7, 3) := by decide +kernel
theorem dX2_copyFrom_5 : decode cX2_copyFrom 5 = .ok (.putfield 7, 3) := by decide +kernel
theorem dX2_copyFrom_8 : decode cX2_copyFrom 8 = .ok (.aload_n 0, 1) := by decide +kernel
theorem dX2_copyFrom_9 : decode cX2_copyFrom 9 = .ok (.aload_n 1, 1) := by decide +kernel
theorem dX2_copyFrom_10 : decode cX2_copyFrom 10 = .ok (.getfield 13, 3) := by decide +kernel
theorem dX2_copyFrom_13 : decode cX2_copyFrom 13 = .ok (.putfield 13, 3) := by decide +kernel
theorem dX2_copyFrom_16 : decode cX2_copyFrom 16 = .ok (.aload_n 0, 1) := by decide +kernel
theorem dX2_copyFrom_17 : decode cX2_copyFrom 17 = .ok (.aload_n 1, 1) := by decide +kernel
theorem dX2_copyFrom_18 : decode cX2_copyFrom 18 = .ok (.getfield 16, 3) := by decide +kernel
theorem dX2_copyFrom_21 : decode cX2_copyFrom 21 = .ok (.putfield 16, 3) := by decide +kernel
theorem dX2_copyFrom_24 : decode cX2_copyFrom 24 = .ok (.aload_n 0, 1) := by decide +kernel
theorem dX2_copyFrom_25 : decode cX2_copyFrom 25 = .ok (.aload_n 1, 1) := by decide +kernel
theorem dX2_copyFrom_26 : decode cX2_copyFrom 26 = .ok (.getfield 19, 3) := by decide +kernel
theorem dX2_copyFrom_29 : decode cX2_copyFrom 29 = .ok (.putfield 19, 3) := by decide +kernel
theorem dX2_copyFrom_32 : decode cX2_copyFrom 32 = .ok (.aload_n 0, 1) := by decide +kernel
theorem dX2_copyFrom_33 : decode cX2_copyFrom 33 = .ok (.aload_n 1, 1) := by decide +kernel
theorem dX2_copyFrom_34 : decode cX2_copyFrom 34 = .ok (.getfield 22, 3) := by decide +kernel
theorem dX2_copyFrom_37 : decode cX2_copyFrom 37 = .ok (.putfield 22, 3) := by decide +kernel
theorem dX2_copyFrom_40 : decode cX2_copyFrom 40 = .ok (.aload_n 0, 1) := by decide +kernel
theorem dX2_copyFrom_41 : decode cX2_copyFrom 41 = .ok (.aload_n 1, 1) := by decide +kernel
theorem dX2_copyFrom_42 : decode cX2_copyFrom 42 = .ok (.getfield 25, 3) := by decide +kernel
theorem dX2_copyFrom_45 : decode cX2_copyFrom 45 = .ok (.putfield 25, 3) := by decide +kernel
theorem dX2_copyFrom_48 : decode cX2_copyFrom 48 = .ok (.return_, 1) := by decide +kernel
theorem dX3_init_0 : decode cX3_init 0 = .ok (.aload_n 0, 1) := by decide +kernel
theorem dX3_init_1 : decode cX3_init 1 = .ok (.invokespecial 3, 3) := by decide +kernel
theorem dX3_init_4 : decode cX3_init 4 = .ok (.aload_n 0, 1) := by decide +kernel
theorem dX3_init_5 : decode cX3_init 5 = .ok (.new 9, 3) := by decide +kernel
theorem dX3_init_8 : decode cX3_init 8 = .ok (.dup, 1) := by decide +kernel
theorem dX3_init_9 : decode cX3_init 9 = .ok (.bipush 20, 2) := by decide +kernel
theorem dX3_init_11 : decode cX3_init 11 = .ok (.invokespecial 11, 3) := by decide +kernel
theorem dX3_init_14 : decode cX3_init 14 = .ok (.putfield 14, 3) := by decide +kernel
theorem dX3_init_17 : decode cX3_init 17 = .ok (.aload_n 0, 1) := by decide +kernel
theorem dX3_init_18 : decode cX3_init 18 = .ok (.new 9, 3) := by decide +kernel
theorem dX3_init_21 : decode cX3_init 21 = .ok (.dup, 1) := by decide +kernel
theorem dX3_init_22 : decode cX3_init 22 = .ok (.bipush 20, 2) := by decide +kernel
theorem dX3_init_24 : decode cX3_init 24 = .ok (.invokespecial 11, 3) := by decide +kernel
theorem dX3_init_27 : decode cX3_init 27 = .ok (.putfield 20, 3) := by decide +kernel
theorem dX3_init_30 : decode cX3_init 30 = .ok (.aload_n 0, 1) := by decide +kernel
theorem dX3_init_31 : decode cX3_init 31 = .ok (.new 9, 3) := by decide +kernel
theorem dX3_init_34 : decode cX3_init 34 = .ok (.dup, 1) := by decide +kernel
theorem dX3_init_35 : decode cX3_init 35 = .ok (.bipush 20, 2) := by decide +kernel
theorem dX3_init_37 : decode cX3_init 37 = .ok (.invokespecial 11, 3) := by decide +kernel
theorem dX3_init_40 : decode cX3_init 40 = .ok (.putfield 23, 3) := by decide +kernel
theorem dX3_init_43 : decode cX3_init 43 = .ok (.return_, 1) := by decide +kernel
theorem dX3_add_0 : decode cX3_add 0 = .ok (.aload_n 0, 1) := by decide +kernel
theorem dX3_add_1 : decode cX3_add 1 = .ok (.dup, 1) := by decide +kernel
theorem dX3_add_2 : decode cX3_add 2 = .ok (.getfield 26, 3) := by decide +kernel
theorem dX3_add_5 : decode cX3_add 5 = .ok (.iconst 1, 1) := by decide +kernel
theorem dX3_add_6 : decode cX3_add 6 = .ok (.iadd, 1) := by decide +kernel
theorem dX3_add_7 : decode cX3_add 7 = .ok (.putfield 26, 3) := by decide +kernel
theorem dX3_add_10 : decode cX3_add 10 = .ok (.aload_n 0, 1) := by decide +kernel
theorem dX3_add_11 : decode cX3_add 11 = .ok (.getfield 14, 3) := by decide +kernel
theorem dX3_add_14 : decode cX3_add 14 = .ok (.iload_n 1, 1) := by decide +kernel
theorem dX3_add_15 : decode cX3_add 15 = .ok (.invokevirtual 30, 3) := by decide +kernel
theorem dX3_add_18 : decode cX3_add 18 = .ok (.aload_n 0, 1) := by decide +kernel
theorem dX3_add_19 : decode cX3_add 19 = .ok (.getfield 20, 3) := by decide +kernel
theorem dX3_add_22 : decode cX3_add 22 = .ok (.iload_n 2, 1) := by decide +kernel
theorem dX3_add_23 : decode cX3_add 23 = .ok (.invokevirtual 30, 3) := by decide +kernel
theorem dX3_add_26 : decode cX3_add 26 = .ok (.aload_n 0, 1) := by decide +kernel
theorem dX3_add_27 : decode cX3_add 27 = .ok (.getfield 23, 3) := by decide +kernel
theorem dX3_add_30 : decode cX3_add 30 = .ok (.iload_n 3, 1) := by decide +kernel
theorem dX3_add_31 : decode cX3_add 31 = .ok (.invokevirtual 30, 3) := by decide +kernel
theorem dX3_add_34 : decode cX3_add 34 = .ok (.return_, 1) := by decide +kernel
theorem dX4_init_0 : decode cX4_init 0 = .ok (.aload_n 0, 1) := by decide +kernel
theorem dX4_init_1 : decode cX4_init 1 = .ok (.invokespecial 3, 3) := by decide +kernel
theorem dX4_init_4 : decode cX4_init 4 = .ok (.aload_n 0, 1) := by decide +kernel
theorem dX4_init_5 : decode cX4_init 5 = .ok (.bipush 60, 2) := by decide +kernel
theorem dX4_init_7 : decode cX4_init 7 = .ok (.putfield 9, 3) := by decide +kernel
theorem dX4_init_10 : decode cX4_init 10 = .ok (.aload_n 0, 1) := by decide +kernel
theorem dX4_init_11 : decode cX4_init 11 = .ok (.new 15, 3) := by decide +kernel
theorem dX4_init_14 : decode cX4_init 14 = .ok (.dup, 1) := by decide +kernel
theorem dX4_init_15 : decode cX4_init 15 = .ok (.invokespecial 17, 3) := by decide +kernel
theorem dX4_init_18 : decode cX4_init 18 = .ok (.putfield 18, 3) := by decide +kernel
theorem dX4_init_21 : decode cX4_init 21 = .ok (.aload_n 0, 1) := by decide +kernel
theorem dX4_init_22 : decode cX4_init 22 = .ok (.new 22, 3) := by decide +kernel
theorem dX4_init_25 : decode cX4_init 25 = .ok (.dup, 1) := by decide +kernel
theorem dX4_init_26 : decode cX4_init 26 = .ok (.invokespecial 24, 3) := by decide +kernel
theorem dX4_init_29 : decode cX4_init 29 = .ok (.putfield 25, 3) := by decide +kernel
theorem dX4_init_32 : decode cX4_init 32 = .ok (.aload_n 0, 1) := by decide +kernel
theorem dX4_init_33 : decode cX4_init 33 = .ok (.new 29, 3) := by decide +kernel
theorem dX4_init_36 : decode cX4_init 36 = .ok (.dup, 1) := by decide +kernel
theorem dX4_init_37 : decode cX4_init 37 = .ok (.bipush 16, 2) := by decide +kernel
theorem dX4_init_39 : decode cX4_init 39 = .ok (.invokespecial 31, 3) := by decide +kernel
theorem dX4_init_42 : decode cX4_init 42 = .ok (.putfield 34, 3) := by decide +kernel
theorem dX4_init_45 : decode cX4_init 45 = .ok (.aload_n 0, 1) := by decide +kernel
theorem dX4_init_46 : decode cX4_init 46 = .ok (.new 29, 3) := by decide +kernel
theorem dX4_init_49 : decode cX4_init 49 = .ok (.dup, 1) := by decide +kernel
theorem dX4_init_50 : decode cX4_init 50 = .ok (.bipush 32, 2) := by decide +kernel
theorem dX4_init_52 : decode cX4_init 52 = .ok (.invokespecial 31, 3) := by decide +kernel
theorem dX4_init_55 : decode cX4_init 55 = .ok (.putfield 38, 3) := by decide +kernel
theorem dX4_init_58 : decode cX4_init 58 = .ok (.aload_n 0, 1) := by decide +kernel
theorem dX4_init_59 : decode cX4_init 59 = .ok (.iload_n 1, 1) := by decide +kernel
theorem dX4_init_60 : decode cX4_init 60 = .ok (.putfield 41, 3) := by decide +kernel
theorem dX4_init_63 : decode cX4_init 63 = .ok (.aload_n 0, 1) := by decide +kernel
theorem dX4_init_64 : decode cX4_init 64 = .ok (.iload_n 2, 1) := by decide +kernel
theorem dX4_init_65 : decode cX4_init 65 = .ok (.putfield 44, 3) := by decide +kernel
theorem dX4_init_68 : decode cX4_init 68 = .ok (.aload_n 0, 1) := by decide +kernel
theorem dX4_init_69 : decode cX4_init 69 = .ok (.iload_n 3, 1) := by decide +kernel
theorem dX4_init_70 : decode cX4_init 70 = .ok (.putfield 47, 3) := by decide +kernel
theorem dX4_init_73 : decode cX4_init 73 = .ok (.aload_n 0, 1) := by decide +kernel
theorem dX4_init_74 : decode cX4_init 74 = .ok (.iload 4, 2) := by decide +kernel
theorem dX4_init_76 : decode cX4_init 76 = .ok (.putfield 50, 3) := by decide +kernel
theorem dX4_init_79 : decode cX4_init 79 = .ok (.aload_n 0, 1) := by decide +kernel
theorem dX4_init_80 : decode cX4_init 80 = .ok (.iload 5, 2) := by decide +kernel
theorem dX4_init_82 : decode cX4_init 82 = .ok (.putfield 53, 3) := by decide +kernel
theorem dX4_init_85 : decode cX4_init 85 = .ok (.return_, 1) := by decide +kernel
theorem dX4_copyFrom_0 : decode cX4_copyFrom 0 = .ok (.aload_n 0, 1) := by decide +kernel
theorem dX4_copyFrom_1 : decode cX4_copyFrom 1 = .ok (.aload_n 1, 1) := by decide +kernel
theorem dX4_copyFrom_2 : decode cX4_copyFrom 2 = .ok (.getfield 41, 3) := by decide +kernel
theorem dX4_copyFrom_5 : decode cX4_copyFrom 5 = .ok (.putfield 41, 3) := by decide +kernel
theorem dX4_copyFrom_8 : decode cX4_copyFrom 8 = .ok (.aload_n 0, 1) := by decide +kernel
theorem dX4_copyFrom_9 : decode cX4_copyFrom 9 = .ok (.aload_n 1, 1) := by decide +kernel
theorem dX4_copyFrom_10 : decode cX4_copyFrom 10 = .ok (.getfield 44, 3) := by decide +kernel
theorem dX4_copyFrom_13 : decode cX4_copyFrom 13 = .ok (.putfield 44, 3) := by decide +kernel
theorem dX4_copyFrom_16 : decode cX4_copyFrom 16 = .ok (.aload_n 0, 1) := by decide +kernel
theorem dX4_copyFrom_17 : decode cX4_copyFrom 17 = .ok (.aload_n 1, 1) := by decide +kernel
theorem dX4_copyFrom_18 : decode cX4_copyFrom 18 = .ok (.getfield 47, 3) := by decide +kernel
theorem dX4_copyFrom_21 : decode cX4_copyFrom 21 = .ok (.putfield 47, 3) := by decide +kernel
theorem dX4_copyFrom_24 : decode cX4_copyFrom 24 = .ok (.aload_n 0, 1) := by decide +kernel
theorem dX4_copyFrom_25 : decode cX4_copyFrom 25 = .ok (.aload_n 1, 1) := by decide +kernel
theorem dX4_copyFrom_26 : decode cX4_copyFrom 26 = .ok (.getfield 50, 3) := by decide +kernel
theorem dX4_copyFrom_29 : decode cX4_copyFrom 29 = .ok (.putfield 50, 3) := by decide +kernel
theorem dX4_copyFrom_32 : decode cX4_copyFrom 32 = .ok (.aload_n 0, 1) := by decide +kernel
theorem dX4_copyFrom_33 : decode cX4_copyFrom 33 = .ok (.aload_n 1, 1) := by decide +kernel
theorem dX4_copyFrom_34 : decode cX4_copyFrom 34 = .ok (.getfield 53, 3) := by decide +kernel
theorem dX4_copyFrom_37 : decode cX4_copyFrom 37 = .ok (.putfield 53, 3) := by decide +kernel
theorem dX4_copyFrom_40 : decode cX4_copyFrom 40 = .ok (.aload_n 0, 1) := by decide +kernel
theorem dX4_copyFrom_41 : decode cX4_copyFrom 41 = .ok (.aload_n 1, 1) := by decide +kernel
theorem dX4_copyFrom_42 : decode cX4_copyFrom 42 = .ok (.getfield 56, 3) := by decide +kernel
theorem dX4_copyFrom_45 : decode cX4_copyFrom 45 = .ok (.putfield 56, 3) := by decide +kernel
theorem dX4_copyFrom_48 : decode cX4_copyFrom 48 = .ok (.aload_n 0, 1) := by decide +kernel
theorem dX4_copyFrom_49 : decode cX4_copyFrom 49 = .ok (.aload_n 1, 1) := by decide +kernel
theorem dX4_copyFrom_50 : decode cX4_copyFrom 50 = .ok (.getfield 60, 3) := by decide +kernel
theorem dX4_copyFrom_53 : decode cX4_copyFrom 53 = .ok (.putfield 60, 3) := by decide +kernel
theorem dX4_copyFrom_56 : decode cX4_copyFrom 56 = .ok (.aload_n 0, 1) := by decide +kernel
theorem dX4_copyFrom_57 : decode cX4_copyFrom 57 = .ok (.aload_n 1, 1) := by decide +kernel
theorem dX4_copyFrom_58 : decode cX4_copyFrom 58 = .ok (.getfield 63, 3) := by decide +kernel
theorem dX4_copyFrom_61 : decode cX4_copyFrom 61 = .ok (.putfield 63, 3) := by decide +kernel
theorem dX4_copyFrom_64 : decode cX4_copyFrom 64 = .ok (.aload_n 0, 1) := by decide +kernel
theorem dX4_copyFrom_65 : decode cX4_copyFrom 65 = .ok (.aload_n 1, 1) := by decide +kernel
theorem dX4_copyFrom_66 : decode cX4_copyFrom 66 = .ok (.getfield 66, 3) := by decide +kernel
theorem dX4_copyFrom_69 : decode cX4_copyFrom 69 = .ok (.putfield 66, 3) := by decide +kernel
theorem dX4_copyFrom_72 : decode cX4_copyFrom 72 = .ok (.aload_n 0, 1) := by decide +kernel
theorem dX4_copyFrom_73 : decode cX4_copyFrom 73 = .ok (.aload_n 1, 1) := by decide +kernel
theorem dX4_copyFrom_74 : decode cX4_copyFrom 74 = .ok (.getfield 69, 3) := by decide +kernel
theorem dX4_copyFrom_77 : decode cX4_copyFrom 77 = .ok (.putfield 69, 3) := by decide +kernel
theorem dX4_copyFrom_80 : decode cX4_copyFrom 80 = .ok (.aload_n 0, 1) := by decide +kernel
theorem dX4_copyFrom_81 : decode cX4_copyFrom 81 = .ok (.aload_n 1, 1) := by decide +kernel
theorem dX4_copyFrom_82 : decode cX4_copyFrom 82 = .ok (.getfield 9, 3) := by decide +kernel
theorem dX4_copyFrom_85 : decode cX4_copyFrom 85 = .ok (.putfield 9, 3) := by decide +kernel
theorem dX4_copyFrom_88 : decode cX4_copyFrom 88 = .ok (.aload_n 0, 1) := by decide +kernel
theorem dX4_copyFrom_89 : decode cX4_copyFrom 89 = .ok (.aload_n 1, 1) := by decide +kernel
theorem dX4_copyFrom_90 : decode cX4_copyFrom 90 = .ok (.getfield 72, 3) := by decide +kernel
theorem dX4_copyFrom_93 : decode cX4_copyFrom 93 = .ok (.putfield 72, 3) := by decide +kernel
theorem dX4_copyFrom_96 : decode cX4_copyFrom 96 = .ok (.aload_n 0, 1) := by decide +kernel
theorem dX4_copyFrom_97 : decode cX4_copyFrom 97 = .ok (.aload_n 1, 1) := by decide +kernel
theorem dX4_copyFrom_98 : decode cX4_copyFrom 98 = .ok (.getfield 75, 3) := by decide +kernel
theorem dX4_copyFrom_101 : decode cX4_copyFrom 101 = .ok (.putfield 75, 3) := by decide +kernel
theorem dX4_copyFrom_104 : decode cX4_copyFrom 104 = .ok (.aload_n 0, 1) := by decide +kernel
theorem dX4_copyFrom_105 : decode cX4_copyFrom 105 = .ok (.getfield 18, 3) := by decide +kernel
theorem dX4_copyFrom_108 : decode cX4_copyFrom 108 = .ok (.aload_n 1, 1) := by decide +kernel
theorem dX4_copyFrom_109 : decode cX4_copyFrom 109 = .ok (.getfield 18, 3) := by decide +kernel
theorem dX4_copyFrom_112 : decode cX4_copyFrom 112 = .ok (.invokevirtual 78, 3) := by decide +kernel
theorem dX4_copyFrom_115 : decode cX4_copyFrom 115 = .ok (.aload_n 0, 1) := by decide +kernel
theorem dX4_copyFrom_116 : decode cX4_copyFrom 116 = .ok (.getfield 25, 3) := by decide +kernel
theorem dX4_copyFrom_119 : decode cX4_copyFrom 119 = .ok (.aload_n 1, 1) := by decide +kernel
theorem dX4_copyFrom_120 : decode cX4_copyFrom 120 = .ok (.getfield 25, 3) := by decide +kernel
theorem dX4_copyFrom_123 : decode cX4_copyFrom 123 = .ok (.invokevirtual 82, 3) := by decide +kernel
theorem dX4_copyFrom_126 : decode cX4_copyFrom 126 = .ok (.aload_n 0, 1) := by decide +kernel
theorem dX4_copyFrom_127 : decode cX4_copyFrom 127 = .ok (.getfield 34, 3) := by decide +kernel
theorem dX4_copyFrom_130 : decode cX4_copyFrom 130 = .ok (.aload_n 1, 1) := by decide +kernel
theorem dX4_copyFrom_131 : decode cX4_copyFrom 131 = .ok (.getfield 34, 3) := by decide +kernel
theorem dX4_copyFrom_134 : decode cX4_copyFrom 134 = .ok (.invokevirtual 85, 3) := by decide +kernel
theorem dX4_copyFrom_137 : decode cX4_copyFrom 137 = .ok (.aload_n 0, 1) := by decide +kernel
theorem dX4_copyFrom_138 : decode cX4_copyFrom 138 = .ok (.getfield 38, 3) := by decide +kernel
theorem dX4_copyFrom_141 : decode cX4_copyFrom 141 = .ok (.aload_n 1, 1) := by decide +kernel
theorem dX4_copyFrom_142 : decode cX4_copyFrom 142 = .ok (.getfield 38, 3) := by decide +kernel
theorem dX4_copyFrom_145 : decode cX4_copyFrom 145 = .ok (.invokevirtual 85, 3) := by decide +kernel
theorem dX4_copyFrom_148 : decode cX4_copyFrom 148 = .ok (.return_, 1) := by decide +kernel
theorem dX4_rest_0 : decode cX4_rest 0 = .ok (.aload_n 0, 1) := by decide +kernel
theorem dX4_rest_1 : decode cX4_rest 1 = .ok (.iconst 0, 1) := by decide +kernel
theorem dX4_rest_2 : decode cX4_rest 2 = .ok (.putfield 60, 3) := by decide +kernel
theorem dX4_rest_5 : decode cX4_rest 5 = .ok (.aload_n 0, 1) := by decide +kernel
theorem dX4_rest_6 : decode cX4_rest 6 = .ok (.iconst 0, 1) := by decide +kernel
theorem dX4_rest_7 : decode cX4_rest 7 = .ok (.putfield 63, 3) := by decide +kernel
theorem dX4_rest_10 : decode cX4_rest 10 = .ok (.aload_n 0, 1) := by decide +kernel
theorem dX4_rest_11 : decode cX4_rest 11 = .ok (.iconst 0, 1) := by decide +kernel
theorem dX4_rest_12 : decode cX4_rest 12 = .ok (.putfield 66, 3) := by decide +kernel
theorem dX4_rest_15 : decode cX4_rest 15 = .ok (.return_, 1) := by decide +kernel
theorem dX4_tick_0 : decode cX4_tick 0 = .ok (.aload_n 3, 1) := by decide +kernel
theorem dX4_tick_1 : decode cX4_tick 1 = .ok (.invokevirtual 88, 3) := by decide +kernel
theorem dX4_tick_4 : decode cX4_tick 4 = .ok (.aload_n 0, 1) := by decide +kernel
theorem dX4_tick_5 : decode cX4_tick 5 = .ok (.getfield 47, 3) := by decide +kernel
theorem dX4_tick_8 : decode cX4_tick 8 = .ok (.aload_n 0, 1) := by decide +kernel
theorem dX4_tick_9 : decode cX4_tick 9 = .ok (.getfield 60, 3) := by decide +kernel
theorem dX4_tick_12 : decode cX4_tick 12 = .ok (.imul, 1) := by decide +kernel
theorem dX4_tick_13 : decode cX4_tick 13 = .ok (.bipush 10, 2) := by decide +kernel
theorem dX4_tick_15 : decode cX4_tick 15 = .ok (.idiv, 1) := by decide +kernel
theorem dX4_tick_16 : decode cX4_tick 16 = .ok (.istore 4, 2) := by decide +kernel
theorem dX4_tick_18 : decode cX4_tick 18 = .ok (.iload 4, 2) := by decide +kernel
theorem dX4_tick_20 : decode cX4_tick 20 = .ok (.iload_n 1, 1) := by decide +kernel
theorem dX4_tick_21 : decode cX4_tick 21 = .ok (.if_icmp .le 28, 3) := by decide +kernel
theorem dX4_tick_24 : decode cX4_tick 24 = .ok (.aload_n 0, 1) := by decide +kernel
theorem dX4_tick_25 : decode cX4_tick 25 = .ok (.invokevirtual 93, 3) := by decide +kernel
theorem dX4_tick_28 : decode cX4_tick 28 = .ok (.aload_n 0, 1) := by decide +kernel
theorem dX4_tick_29 : decode cX4_tick 29 = .ok (.getfield 25, 3) := by decide +kernel
theorem dX4_tick_32 : decode cX4_tick 32 = .ok (.dup, 1) := by decide +kernel
theorem dX4_tick_33 : decode cX4_tick 33 = .ok (.getfield 96, 3) := by decide +kernel
theorem dX4_tick_36 : decode cX4_tick 36 = .ok (.iconst 1, 1) := by decide +kernel
theorem dX4_tick_37 : decode cX4_tick 37 = .ok (.iadd, 1) := by decide +kernel
theorem dX4_tick_38 : decode cX4_tick 38 = .ok (.putfield 96, 3) := by decide +kernel
theorem dX4_tick_41 : decode cX4_tick 41 = .ok (.aload_n 3, 1) := by decide +kernel
theorem dX4_tick_42 : decode cX4_tick 42 = .ok (.iconst 1, 1) := by decide +kernel
theorem dX4_tick_43 : decode cX4_tick 43 = .ok (.putfield 99, 3) := by decide +kernel
theorem dX4_tick_46 : decode cX4_tick 46 = .ok (.goto 45, 3) := by decide +kernel
theorem dX4_tick_49 : decode cX4_tick 49 = .ok (.aload_n 3, 1) := by decide +kernel
theorem dX4_tick_50 : decode cX4_tick 50 = .ok (.iload 4, 2) := by decide +kernel
theorem dX4_tick_52 : decode cX4_tick 52 = .ok (.putfield 102, 3) := by decide +kernel
theorem dX4_tick_55 : decode cX4_tick 55 = .ok (.aload_n 0, 1) := by decide +kernel
theorem dX4_tick_56 : decode cX4_tick 56 = .ok (.getfield 63, 3) := by decide +kernel
theorem dX4_tick_59 : decode cX4_tick 59 = .ok (.ifCond .eq 13, 3) := by decide +kernel
theorem dX4_tick_62 : decode cX4_tick 62 = .ok (.aload_n 0, 1) := by decide +kernel
theorem dX4_tick_63 : decode cX4_tick 63 = .ok (.iload 4, 2) := by decide +kernel
theorem dX4_tick_65 : decode cX4_tick 65 = .ok (.aload_n 3, 1) := by decide +kernel
theorem dX4_tick_66 : decode cX4_tick 66 = .ok (.invokevirtual 105, 3) := by decide +kernel
theorem dX4_tick_69 : decode cX4_tick 69 = .ok (.goto 22, 3) := by decide +kernel
theorem dX4_tick_72 : decode cX4_tick 72 = .ok (.aload_n 0, 1) := by decide +kernel
theorem dX4_tick_73 : decode cX4_tick 73 = .ok (.iload 4, 2) := by decide +kernel
theorem dX4_tick_75 : decode cX4_tick 75 = .ok (.invokevirtual 109, 3) := by decide +kernel
theorem dX4_tick_78 : decode cX4_tick 78 = .ok (.aload_n 0, 1) := by decide +kernel
theorem dX4_tick_79 : decode cX4_tick 79 = .ok (.invokevirtual 112, 3) := by decide +kernel
theorem dX4_tick_82 : decode cX4_tick 82 = .ok (.ifCond .eq 9, 3) := by decide +kernel
theorem dX4_tick_85 : decode cX4_tick 85 = .ok (.aload_n 0, 1) := by decide +kernel
theorem dX4_tick_86 : decode cX4_tick 86 = .ok (.iload_n 2, 1) := by decide +kernel
theorem dX4_tick_87 : decode cX4_tick 87 = .ok (.aload_n 3, 1) := by decide +kernel
theorem dX4_tick_88 : decode cX4_tick 88 = .ok (.invokevirtual 116, 3) := by decide +kernel
theorem dX4_tick_91 : decode cX4_tick 91 = .ok (.aload_n 0, 1) := by decide +kernel
theorem dX4_tick_92 : decode cX4_tick 92 = .ok (.aload_n 3, 1) := by decide +kernel
theorem dX4_tick_93 : decode cX4_tick 93 = .ok (.invokevirtual 119, 3) := by decide +kernel
theorem dX4_tick_96 : decode cX4_tick 96 = .ok (.aload_n 0, 1) := by decide +kernel
theorem dX4_tick_97 : decode cX4_tick 97 = .ok (.getfield 38, 3) := by decide +kernel
theorem dX4_tick_100 : decode cX4_tick 100 = .ok (.aload_n 0, 1) := by decide +kernel
theorem dX4_tick_101 : decode cX4_tick 101 = .ok (.getfield 60, 3) := by decide +kernel
theorem dX4_tick_104 : decode cX4_tick 104 = .ok (.i2b, 1) := by decide +kernel
theorem dX4_tick_105 : decode cX4_tick 105 = .ok (.invokevirtual 123, 3) := by decide +kernel
theorem dX4_tick_108 : decode cX4_tick 108 = .ok (.return_, 1) := by decide +kernel
theorem dX4_gainSpeed_0 : decode cX4_gainSpeed 0 = .ok (.aload_n 0, 1) := by decide +kernel
theorem dX4_gainSpeed_1 : decode cX4_gainSpeed 1 = .ok (.getfield 25, 3) := by decide +kernel
theorem dX4_gainSpeed_4 : decode cX4_gainSpeed 4 = .ok (.dup, 1) := by decide +kernel
theorem dX4_gainSpeed_5 : decode cX4_gainSpeed 5 = .ok (.getfield 126, 3) := by decide +kernel
theorem dX4_gainSpeed_8 : decode cX4_gainSpeed 8 = .ok (.iload_n 1, 1) := by decide +kernel
theorem dX4_gainSpeed_9 : decode cX4_gainSpeed 9 = .ok (.iadd, 1) := by decide +kernel
theorem dX4_gainSpeed_10 : decode cX4_gainSpeed 10 = .ok (.putfield 126, 3) := by decide +kernel
theorem dX4_gainSpeed_13 : decode cX4_gainSpeed 13 = .ok (.aload_n 0, 1) := by decide +kernel
theorem dX4_gainSpeed_14 : decode cX4_gainSpeed 14 = .ok (.getfield 60, 3) := by decide +kernel
theorem dX4_gainSpeed_17 : decode cX4_gainSpeed 17 = .ok (.aload_n 0, 1) := by decide +kernel
theorem dX4_gainSpeed_18 : decode cX4_gainSpeed 18 = .ok (.aload_n 0, 1) := by decide +kernel
theorem dX4_gainSpeed_19 : decode cX4_gainSpeed 19 = .ok (.getfield 41, 3) := by decide +kernel
theorem dX4_gainSpeed_22 : decode cX4_gainSpeed 22 = .ok (.invokevirtual 129, 3) := by decide +kernel
theorem dX4_gainSpeed_25 : decode cX4_gainSpeed 25 = .ok (.iadd, 1) := by decide +kernel
theorem dX4_gainSpeed_26 : decode cX4_gainSpeed 26 = .ok (.aload_n 0, 1) := by decide +kernel
theorem dX4_gainSpeed_27 : decode cX4_gainSpeed 27 = .ok (.getfield 50, 3) := by decide +kernel
theorem dX4_gainSpeed_30 : decode cX4_gainSpeed 30 = .ok (.aload_n 0, 1) := by decide +kernel
theorem dX4_gainSpeed_31 : decode cX4_gainSpeed 31 = .ok (.getfield 60, 3) := by decide +kernel
theorem dX4_gainSpeed_34 : decode cX4_gainSpeed 34 = .ok (.imul, 1) := by decide +kernel
theorem dX4_gainSpeed_35 : decode cX4_gainSpeed 35 = .ok (.aload_n 0, 1) := by decide +kernel
theorem dX4_gainSpeed_36 : decode cX4_gainSpeed 36 = .ok (.getfield 60, 3) := by decide +kernel
theorem dX4_gainSpeed_39 : decode cX4_gainSpeed 39 = .ok (.imul, 1) := by decide +kernel
theorem dX4_gainSpeed_40 : decode cX4_gainSpeed 40 = .ok (.ldc 133, 2) := by decide +kernel
theorem dX4_gainSpeed_42 : decode cX4_gainSpeed 42 = .ok (.idiv, 1) := by decide +kernel
theorem dX4_gainSpeed_43 : decode cX4_gainSpeed 43 = .ok (.isub, 1) := by decide +kernel
theorem dX4_gainSpeed_44 : decode cX4_gainSpeed 44 = .ok (.istore_n 2, 1) := by decide +kernel
theorem dX4_gainSpeed_45 : decode cX4_gainSpeed 45 = .ok (.aload_n 0, 1) := by decide +kernel
theorem dX4_gainSpeed_46 : decode cX4_gainSpeed 46 = .ok (.iload_n 2, 1) := by decide +kernel
theorem dX4_gainSpeed_47 : decode cX4_gainSpeed 47 = .ok (.iconst 0, 1) := by decide +kernel
theorem dX4_gainSpeed_48 : decode cX4_gainSpeed 48 = .ok (.invokestatic 134, 3) := by decide +kernel
theorem dX4_gainSpeed_51 : decode cX4_gainSpeed 51 = .ok (.sipush 2000, 3) := by decide +kernel
theorem dX4_gainSpeed_54 : decode cX4_gainSpeed 54 = .ok (.invokestatic 140, 3) := by decide +kernel
theorem dX4_gainSpeed_57 : decode cX4_gainSpeed 57 = .ok (.putfield 60, 3) := by decide +kernel
theorem dX4_gainSpeed_60 : decode cX4_gainSpeed 60 = .ok (.aload_n 0, 1) := by decide +kernel
theorem dX4_gainSpeed_61 : decode cX4_gainSpeed 61 = .ok (.dup, 1) := by decide +kernel
theorem dX4_gainSpeed_62 : decode cX4_gainSpeed 62 = .ok (.getfield 66, 3) := by decide +kernel
theorem dX4_gainSpeed_65 : decode cX4_gainSpeed 65 = .ok (.iconst 1, 1) := by decide +kernel
theorem dX4_gainSpeed_66 : decode cX4_gainSpeed 66 = .ok (.iadd, 1) := by decide +kernel
theorem dX4_gainSpeed_67 : decode cX4_gainSpeed 67 = .ok (.putfield 66, 3) := by decide +kernel
theorem dX4_gainSpeed_70 : decode cX4_gainSpeed 70 = .ok (.return_, 1) := by decide +kernel
theorem dX4_speedFrom_0 : decode cX4_speedFrom 0 = .ok (.aload_n 0, 1) := by decide +kernel
theorem dX4_speedFrom_1 : decode cX4_speedFrom 1 = .ok (.getfield 44, 3) := by decide +kernel
theorem dX4_speedFrom_4 : decode cX4_speedFrom 4 = .ok (.iconst 1, 1) := by decide +kernel
theorem dX4_speedFrom_5 : decode cX4_speedFrom 5 = .ok (.if_icmp .ge 7, 3) := by decide +kernel
theorem dX4_speedFrom_8 : decode cX4_speedFrom 8 = .ok (.iconst 0, 1) := by decide +kernel
theorem dX4_speedFrom_9 : decode cX4_speedFrom 9 = .ok (.goto 12, 3) := by decide +kernel
theorem dX4_speedFrom_12 : decode cX4_speedFrom 12 = .ok (.bipush 100, 2) := by decide +kernel
theorem dX4_speedFrom_14 : decode cX4_speedFrom 14 = .ok (.iload_n 1, 1) := by decide +kernel
theorem dX4_speedFrom_15 : decode cX4_speedFrom 15 = .ok (.imul, 1) := by decide +kernel
theorem dX4_speedFrom_16 : decode cX4_speedFrom 16 = .ok (.aload_n 0, 1) := by decide +kernel
theorem dX4_speedFrom_17 : decode cX4_speedFrom 17 = .ok (.getfield 44, 3) := by decide +kernel
theorem dX4_speedFrom_20 : decode cX4_speedFrom 20 = .ok (.idiv, 1) := by decide +kernel
theorem dX4_speedFrom_21 : decode cX4_speedFrom 21 = .ok (.ireturn, 1) := by decide +kernel
theorem dX4_slamRuleHolds_0 : decode cX4_slamRuleHolds 0 = .ok (.aload_n 0, 1) := by decide +kernel
theorem dX4_slamRuleHolds_1 : decode cX4_slamRuleHolds 1 = .ok (.getfield 69, 3) := by decide +kernel
theorem dX4_slamRuleHolds_4 : decode cX4_slamRuleHolds 4 = .ok (.ifCond .ne 20, 3) := by decide +kernel
theorem dX4_slamRuleHolds_7 : decode cX4_slamRuleHolds 7 = .ok (.aload_n 0, 1) := by decide +kernel
theorem dX4_slamRuleHolds_8 : decode cX4_slamRuleHolds 8 = .ok (.getfield 60, 3) := by decide +kernel
theorem dX4_slamRuleHolds_11 : decode cX4_slamRuleHolds 11 = .ok (.aload_n 0, 1) := by decide +kernel
theorem dX4_slamRuleHolds_12 : decode cX4_slamRuleHolds 12 = .ok (.getfield 9, 3) := by decide +kernel
theorem dX4_slamRuleHolds_15 : decode cX4_slamRuleHolds 15 = .ok (.if_icmp .lt 7, 3) := by decide +kernel
theorem dX4_slamRuleHolds_18 : decode cX4_slamRuleHolds 18 = .ok (.iconst 1, 1) := by decide +kernel
theorem dX4_slamRuleHolds_19 : decode cX4_slamRuleHolds 19 = .ok (.goto 4, 3) := by decide +kernel
theorem dX4_slamRuleHolds_22 : decode cX4_slamRuleHolds 22 = .ok (.iconst 0, 1) := by decide +kernel
theorem dX4_slamRuleHolds_23 : decode cX4_slamRuleHolds 23 = .ok (.ireturn, 1) := by decide +kernel
theorem dX4_slamRuleHolds_24 : decode cX4_slamRuleHolds 24 = .ok (.aload_n 0, 1) := by decide +kernel
theorem dX4_slamRuleHolds_25 : decode cX4_slamRuleHolds 25 = .ok (.getfield 69, 3) := by decide +kernel
theorem dX4_slamRuleHolds_28 : decode cX4_slamRuleHolds 28 = .ok (.iconst 1, 1) := by decide +kernel
theorem dX4_slamRuleHolds_29 : decode cX4_slamRuleHolds 29 = .ok (.if_icmp .ne 28, 3) := by decide +kernel
theorem dX4_slamRuleHolds_32 : decode cX4_slamRuleHolds 32 = .ok (.aload_n 0, 1) := by decide +kernel
theorem dX4_slamRuleHolds_33 : decode cX4_slamRuleHolds 33 = .ok (.getfield 60, 3) := by decide +kernel
theorem dX4_slamRuleHolds_36 : decode cX4_slamRuleHolds 36 = .ok (.aload_n 0, 1) := by decide +kernel
theorem dX4_slamRuleHolds_37 : decode cX4_slamRuleHolds 37 = .ok (.getfield 60, 3) := by decide +kernel
theorem dX4_slamRuleHolds_40 : decode cX4_slamRuleHolds 40 = .ok (.imul, 1) := by decide +kernel
theorem dX4_slamRuleHolds_41 : decode cX4_slamRuleHolds 41 = .ok (.bipush 100, 2) := by decide +kernel
theorem dX4_slamRuleHolds_43 : decode cX4_slamRuleHolds 43 = .ok (.idiv, 1) := by decide +kernel
theorem dX4_slamRuleHolds_44 : decode cX4_slamRuleHolds 44 = .ok (.aload_n 0, 1) := by decide +kernel
theorem dX4_slamRuleHolds_45 : decode cX4_slamRuleHolds 45 = .ok (.getfield 9, 3) := by decide +kernel
theorem dX4_slamRuleHolds_48 : decode cX4_slamRuleHolds 48 = .ok (.if_icmp .lt 7, 3) := by decide +kernel
theorem dX4_slamRuleHolds_51 : decode cX4_slamRuleHolds 51 = .ok (.iconst 1, 1) := by decide +kernel
theorem dX4_slamRuleHolds_52 : decode cX4_slamRuleHolds 52 = .ok (.goto 4, 3) := by decide +kernel
theorem dX4_slamRuleHolds_55 : decode cX4_slamRuleHolds 55 = .ok (.iconst 0, 1) := by decide +kernel
theorem dX4_slamRuleHolds_56 : decode cX4_slamRuleHolds 56 = .ok (.ireturn, 1) := by decide +kernel
theorem dX4_slamRuleHolds_57 : decode cX4_slamRuleHolds 57 = .ok (.aload_n 0, 1) := by decide +kernel
theorem dX4_slamRuleHolds_58 : decode cX4_slamRuleHolds 58 = .ok (.getfield 66, 3) := by decide +kernel
theorem dX4_slamRuleHolds_61 : decode cX4_slamRuleHolds 61 = .ok (.aload_n 0, 1) := by decide +kernel
theorem dX4_slamRuleHolds_62 : decode cX4_slamRuleHolds 62 = .ok (.getfield 9, 3) := by decide +kernel
theorem dX4_slamRuleHolds_65 : decode cX4_slamRuleHolds 65 = .ok (.if_icmp .lt 7, 3) := by decide +kernel
theorem dX4_slamRuleHolds_68 : decode cX4_slamRuleHolds 68 = .ok (.iconst 1, 1) := by decide +kernel
theorem dX4_slamRuleHolds_69 : decode cX4_slamRuleHolds 69 = .ok (.goto 4, 3) := by decide +kernel
theorem dX4_slamRuleHolds_72 : decode cX4_slamRuleHolds 72 = .ok (.iconst 0, 1) := by decide +kernel
theorem dX4_slamRuleHolds_73 : decode cX4_slamRuleHolds 73 = .ok (.ireturn, 1) := by decide +kernel
theorem dX4_slam_0 : decode cX4_slam 0 = .ok (.aload_n 0, 1) := by decide +kernel
theorem dX4_slam_1 : decode cX4_slam 1 = .ok (.iconst 1, 1) := by decide +kernel
theorem dX4_slam_2 : decode cX4_slam 2 = .ok (.putfield 63, 3) := by decide +kernel
theorem dX4_slam_5 : decode cX4_slam 5 = .ok (.aload_n 2, 1) := by decide +kernel
theorem dX4_slam_6 : decode cX4_slam 6 = .ok (.iconst 1, 1) := by decide +kernel
theorem dX4_slam_7 : decode cX4_slam 7 = .ok (.putfield 143, 3) := by decide +kernel
theorem dX4_slam_10 : decode cX4_slam 10 = .ok (.aload_n 0, 1) := by decide +kernel
theorem dX4_slam_11 : decode cX4_slam 11 = .ok (.getfield 25, 3) := by decide +kernel
theorem dX4_slam_14 : decode cX4_slam 14 = .ok (.dup, 1) := by decide +kernel
theorem dX4_slam_15 : decode cX4_slam 15 = .ok (.getfield 146, 3) := by decide +kernel
theorem dX4_slam_18 : decode cX4_slam 18 = .ok (.iconst 1, 1) := by decide +kernel
theorem dX4_slam_19 : decode cX4_slam 19 = .ok (.iadd, 1) := by decide +kernel
theorem dX4_slam_20 : decode cX4_slam 20 = .ok (.putfield 146, 3) := by decide +kernel
theorem dX4_slam_23 : decode cX4_slam 23 = .ok (.aload_n 0, 1) := by decide +kernel
theorem dX4_slam_24 : decode cX4_slam 24 = .ok (.getfield 34, 3) := by decide +kernel
theorem dX4_slam_27 : decode cX4_slam 27 = .ok (.iload_n 1, 1) := by decide +kernel
theorem dX4_slam_28 : decode cX4_slam 28 = .ok (.aload_n 0, 1) := by decide +kernel
theorem dX4_slam_29 : decode cX4_slam 29 = .ok (.getfield 75, 3) := by decide +kernel
theorem dX4_slam_32 : decode cX4_slam 32 = .ok (.isub, 1) := by decide +kernel
theorem dX4_slam_33 : decode cX4_slam 33 = .ok (.invokevirtual 123, 3) := by decide +kernel
theorem dX4_slam_36 : decode cX4_slam 36 = .ok (.aload_n 0, 1) := by decide +kernel
theorem dX4_slam_37 : decode cX4_slam 37 = .ok (.iload_n 1, 1) := by decide +kernel
theorem dX4_slam_38 : decode cX4_slam 38 = .ok (.putfield 75, 3) := by decide +kernel
theorem dX4_slam_41 : decode cX4_slam 41 = .ok (.aload_n 0, 1) := by decide +kernel
theorem dX4_slam_42 : decode cX4_slam 42 = .ok (.getfield 18, 3) := by decide +kernel
theorem dX4_slam_45 : decode cX4_slam 45 = .ok (.getfield 149, 3) := by decide +kernel
theorem dX4_slam_48 : decode cX4_slam 48 = .ok (.istore_n 3, 1) := by decide +kernel
theorem dX4_slam_49 : decode cX4_slam 49 = .ok (.aload_n 0, 1) := by decide +kernel
theorem dX4_slam_50 : decode cX4_slam 50 = .ok (.getfield 18, 3) := by decide +kernel
theorem dX4_slam_53 : decode cX4_slam 53 = .ok (.invokevirtual 152, 3) := by decide +kernel
theorem dX4_slam_56 : decode cX4_slam 56 = .ok (.aload_n 0, 1) := by decide +kernel
theorem dX4_slam_57 : decode cX4_slam 57 = .ok (.getfield 18, 3) := by decide +kernel
theorem dX4_slam_60 : decode cX4_slam 60 = .ok (.getfield 149, 3) := by decide +kernel
theorem dX4_slam_63 : decode cX4_slam 63 = .ok (.aload_n 0, 1) := by decide +kernel
theorem dX4_slam_64 : decode cX4_slam 64 = .ok (.getfield 18, 3) := by decide +kernel
theorem dX4_slam_67 : decode cX4_slam 67 = .ok (.getfield 155, 3) := by decide +kernel
theorem dX4_slam_70 : decode cX4_slam 70 = .ok (.if_icmp .ne 19, 3) := by decide +kernel
theorem dX4_slam_73 : decode cX4_slam 73 = .ok (.iload_n 3, 1) := by decide +kernel
theorem dX4_slam_74 : decode cX4_slam 74 = .ok (.aload_n 0, 1) := by decide +kernel
theorem dX4_slam_75 : decode cX4_slam 75 = .ok (.getfield 18, 3) := by decide +kernel
theorem dX4_slam_78 : decode cX4_slam 78 = .ok (.getfield 155, 3) := by decide +kernel
theorem dX4_slam_81 : decode cX4_slam 81 = .ok (.if_icmp .le 8, 3) := by decide +kernel
theorem dX4_slam_84 : decode cX4_slam 84 = .ok (.aload_n 2, 1) := by decide +kernel
theorem dX4_slam_85 : decode cX4_slam 85 = .ok (.iconst 4, 1) := by decide +kernel
theorem dX4_slam_86 : decode cX4_slam 86 = .ok (.putfield 99, 3) := by decide +kernel
theorem dX4_slam_89 : decode cX4_slam 89 = .ok (.return_, 1) := by decide +kernel
theorem dX4_pushIntoChamber_0 : decode cX4_pushIntoChamber 0 = .ok (.iload_n 1, 1) := by decide +kernel
theorem dX4_pushIntoChamber_1 : decode cX4_pushIntoChamber 1 = .ok (.aload_n 0, 1) := by decide +kernel
theorem dX4_pushIntoChamber_2 : decode cX4_pushIntoChamber 2 = .ok (.getfield 18, 3) := by decide +kernel
theorem dX4_pushIntoChamber_5 : decode cX4_pushIntoChamber 5 = .ok (.iload_n 1, 1) := by decide +kernel
theorem dX4_pushIntoChamber_6 : decode cX4_pushIntoChamber 6 = .ok (.invokevirtual 158, 3) := by decide +kernel
theorem dX4_pushIntoChamber_9 : decode cX4_pushIntoChamber 9 = .ok (.isub, 1) := by decide +kernel
theorem dX4_pushIntoChamber_10 : decode cX4_pushIntoChamber 10 = .ok (.istore_n 3, 1) := by decide +kernel
theorem dX4_pushIntoChamber_11 : decode cX4_pushIntoChamber 11 = .ok (.iload_n 3, 1) := by decide +kernel
theorem dX4_pushIntoChamber_12 : decode cX4_pushIntoChamber 12 = .ok (.ifCond .le 21, 3) := by decide +kernel
theorem dX4_pushIntoChamber_15 : decode cX4_pushIntoChamber 15 = .ok (.aload_n 0, 1) := by decide +kernel
theorem dX4_pushIntoChamber_16 : decode cX4_pushIntoChamber 16 = .ok (.getfield 25, 3) := by decide +kernel
theorem dX4_pushIntoChamber_19 : decode cX4_pushIntoChamber 19 = .ok (.dup, 1) := by decide +kernel
theorem dX4_pushIntoChamber_20 : decode cX4_pushIntoChamber 20 = .ok (.getfield 161, 3) := by decide +kernel
theorem dX4_pushIntoChamber_23 : decode cX4_pushIntoChamber 23 = .ok (.iload_n 3, 1) := by decide +kernel
theorem dX4_pushIntoChamber_24 : decode cX4_pushIntoChamber 24 = .ok (.iadd, 1) := by decide +kernel
theorem dX4_pushIntoChamber_25 : decode cX4_pushIntoChamber 25 = .ok (.putfield 161, 3) := by decide +kernel
theorem dX4_pushIntoChamber_28 : decode cX4_pushIntoChamber 28 = .ok (.aload_n 2, 1) := by decide +kernel
theorem dX4_pushIntoChamber_29 : decode cX4_pushIntoChamber 29 = .ok (.iconst 2, 1) := by decide +kernel
theorem dX4_pushIntoChamber_30 : decode cX4_pushIntoChamber 30 = .ok (.putfield 99, 3) := by decide +kernel
theorem dX4_pushIntoChamber_33 : decode cX4_pushIntoChamber 33 = .ok (.aload_n 0, 1) := by decide +kernel
theorem dX4_pushIntoChamber_34 : decode cX4_pushIntoChamber 34 = .ok (.getfield 60, 3) := by decide +kernel
theorem dX4_pushIntoChamber_37 : decode cX4_pushIntoChamber 37 = .ok (.iconst 1, 1) := by decide +kernel
theorem dX4_pushIntoChamber_38 : decode cX4_pushIntoChamber 38 = .ok (.isub, 1) := by decide +kernel
theorem dX4_pushIntoChamber_39 : decode cX4_pushIntoChamber 39 = .ok (.aload_n 0, 1) := by decide +kernel
theorem dX4_pushIntoChamber_40 : decode cX4_pushIntoChamber 40 = .ok (.aload_n 0, 1) := by decide +kernel
theorem dX4_pushIntoChamber_41 : decode cX4_pushIntoChamber 41 = .ok (.getfield 18, 3) := by decide +kernel
theorem dX4_pushIntoChamber_44 : decode cX4_pushIntoChamber 44 = .ok (.invokevirtual 164, 3) := by decide +kernel
theorem dX4_pushIntoChamber_47 : decode cX4_pushIntoChamber 47 = .ok (.aload_n 0, 1) := by decide +kernel
theorem dX4_pushIntoChamber_48 : decode cX4_pushIntoChamber 48 = .ok (.getfield 41, 3) := by decide +kernel
theorem dX4_pushIntoChamber_51 : decode cX4_pushIntoChamber 51 = .ok (.isub, 1) := by decide +kernel
theorem dX4_pushIntoChamber_52 : decode cX4_pushIntoChamber 52 = .ok (.iconst 0, 1) := by decide +kernel
theorem dX4_pushIntoChamber_53 : decode cX4_pushIntoChamber 53 = .ok (.invokestatic 134, 3) := by decide +kernel
theorem dX4_pushIntoChamber_56 : decode cX4_pushIntoChamber 56 = .ok (.invokevirtual 129, 3) := by decide +kernel
theorem dX4_pushIntoChamber_59 : decode cX4_pushIntoChamber 59 = .ok (.isub, 1) := by decide +kernel
theorem dX4_pushIntoChamber_60 : decode cX4_pushIntoChamber 60 = .ok (.istore 4, 2) := by decide +kernel
theorem dX4_pushIntoChamber_62 : decode cX4_pushIntoChamber 62 = .ok (.iload 4, 2) := by decide +kernel
theorem dX4_pushIntoChamber_64 : decode cX4_pushIntoChamber 64 = .ok (.iconst 1, 1) := by decide +kernel
theorem dX4_pushIntoChamber_65 : decode cX4_pushIntoChamber 65 = .ok (.if_icmp .ge 10, 3) := by decide +kernel
theorem dX4_pushIntoChamber_68 : decode cX4_pushIntoChamber 68 = .ok (.aload_n 0, 1) := by decide +kernel
theorem dX4_pushIntoChamber_69 : decode cX4_pushIntoChamber 69 = .ok (.invokevirtual 93, 3) := by decide +kernel
theorem dX4_pushIntoChamber_72 : decode cX4_pushIntoChamber 72 = .ok (.goto 9, 3) := by decide +kernel
theorem dX4_pushIntoChamber_75 : decode cX4_pushIntoChamber 75 = .ok (.aload_n 0, 1) := by decide +kernel
theorem dX4_pushIntoChamber_76 : decode cX4_pushIntoChamber 76 = .ok (.iload 4, 2) := by decide +kernel
theorem dX4_pushIntoChamber_78 : decode cX4_pushIntoChamber 78 = .ok (.putfield 60, 3) := by decide +kernel
theorem dX4_pushIntoChamber_81 : decode cX4_pushIntoChamber 81 = .ok (.return_, 1) := by decide +kernel
theorem dX4_deliver_0 : decode cX4_deliver 0 = .ok (.aload_n 0, 1) := by decide +kernel
theorem dX4_deliver_1 : decode cX4_deliver 1 = .ok (.getfield 18, 3) := by decide +kernel
theorem dX4_deliver_4 : decode cX4_deliver 4 = .ok (.invokevirtual 164, 3) := by decide +kernel
theorem dX4_deliver_7 : decode cX4_deliver 7 = .ok (.istore_n 2, 1) := by decide +kernel
theorem dX4_deliver_8 : decode cX4_deliver 8 = .ok (.iload_n 2, 1) := by decide +kernel
theorem dX4_deliver_9 : decode cX4_deliver 9 = .ok (.aload_n 0, 1) := by decide +kernel
theorem dX4_deliver_10 : decode cX4_deliver 10 = .ok (.getfield 53, 3) := by decide +kernel
theorem dX4_deliver_13 : decode cX4_deliver 13 = .ok (.if_icmp .gt 4, 3) := by decide +kernel
theorem dX4_deliver_16 : decode cX4_deliver 16 = .ok (.return_, 1) := by decide +kernel
theorem dX4_deliver_17 : decode cX4_deliver 17 = .ok (.aload_n 0, 1) := by decide +kernel
theorem dX4_deliver_18 : decode cX4_deliver 18 = .ok (.getfield 18, 3) := by decide +kernel
theorem dX4_deliver_21 : decode cX4_deliver 21 = .ok (.getfield 168, 3) := by decide +kernel
theorem dX4_deliver_24 : decode cX4_deliver 24 = .ok (.iconst 1, 1) := by decide +kernel
theorem dX4_deliver_25 : decode cX4_deliver 25 = .ok (.iload_n 2, 1) := by decide +kernel
theorem dX4_deliver_26 : decode cX4_deliver 26 = .ok (.aload_n 0, 1) := by decide +kernel
theorem dX4_deliver_27 : decode cX4_deliver 27 = .ok (.getfield 53, 3) := by decide +kernel
theorem dX4_deliver_30 : decode cX4_deliver 30 = .ok (.isub, 1) := by decide +kernel
theorem dX4_deliver_31 : decode cX4_deliver 31 = .ok (.bipush 10, 2) := by decide +kernel
theorem dX4_deliver_33 : decode cX4_deliver 33 = .ok (.idiv, 1) := by decide +kernel
theorem dX4_deliver_34 : decode cX4_deliver 34 = .ok (.iadd, 1) := by decide +kernel
theorem dX4_deliver_35 : decode cX4_deliver 35 = .ok (.invokestatic 140, 3) := by decide +kernel
theorem dX4_deliver_38 : decode cX4_deliver 38 = .ok (.istore_n 3, 1) := by decide +kernel
theorem dX4_deliver_39 : decode cX4_deliver 39 = .ok (.aload_n 0, 1) := by decide +kernel
theorem dX4_deliver_40 : decode cX4_deliver 40 = .ok (.getfield 18, 3) := by decide +kernel
theorem dX4_deliver_43 : decode cX4_deliver 43 = .ok (.dup, 1) := by decide +kernel
theorem dX4_deliver_44 : decode cX4_deliver 44 = .ok (.getfield 168, 3) := by decide +kernel
theorem dX4_deliver_47 : decode cX4_deliver 47 = .ok (.iload_n 3, 1) := by decide +kernel
theorem dX4_deliver_48 : decode cX4_deliver 48 = .ok (.isub, 1) := by decide +kernel
theorem dX4_deliver_49 : decode cX4_deliver 49 = .ok (.putfield 168, 3) := by decide +kernel
theorem dX4_deliver_52 : decode cX4_deliver 52 = .ok (.aload_n 0, 1) := by decide +kernel
theorem dX4_deliver_53 : decode cX4_deliver 53 = .ok (.getfield 25, 3) := by decide +kernel
theorem dX4_deliver_56 : decode cX4_deliver 56 = .ok (.dup, 1) := by decide +kernel
theorem dX4_deliver_57 : decode cX4_deliver 57 = .ok (.getfield 171, 3) := by decide +kernel
theorem dX4_deliver_60 : decode cX4_deliver 60 = .ok (.iload_n 3, 1) := by decide +kernel
theorem dX4_deliver_61 : decode cX4_deliver 61 = .ok (.iadd, 1) := by decide +kernel
theorem dX4_deliver_62 : decode cX4_deliver 62 = .ok (.putfield 171, 3) := by decide +kernel
theorem dX4_deliver_65 : decode cX4_deliver 65 = .ok (.aload_n 1, 1) := by decide +kernel
theorem dX4_deliver_66 : decode cX4_deliver 66 = .ok (.iload_n 3, 1) := by decide +kernel
theorem dX4_deliver_67 : decode cX4_deliver 67 = .ok (.putfield 174, 3) := by decide +kernel
theorem dX4_deliver_70 : decode cX4_deliver 70 = .ok (.iload_n 3, 1) := by decide +kernel
theorem dX4_deliver_71 : decode cX4_deliver 71 = .ok (.sipush 30000, 3) := by decide +kernel
theorem dX4_deliver_74 : decode cX4_deliver 74 = .ok (.aload_n 0, 1) := by decide +kernel
theorem dX4_deliver_75 : decode cX4_deliver 75 = .ok (.getfield 72, 3) := by decide +kernel
theorem dX4_deliver_78 : decode cX4_deliver 78 = .ok (.isub, 1) := by decide +kernel
theorem dX4_deliver_79 : decode cX4_deliver 79 = .ok (.invokestatic 140, 3) := by decide +kernel
theorem dX4_deliver_82 : decode cX4_deliver 82 = .ok (.istore 4, 2) := by decide +kernel
theorem dX4_deliver_84 : decode cX4_deliver 84 = .ok (.aload_n 0, 1) := by decide +kernel
theorem dX4_deliver_85 : decode cX4_deliver 85 = .ok (.dup, 1) := by decide +kernel
theorem dX4_deliver_86 : decode cX4_deliver 86 = .ok (.getfield 72, 3) := by decide +kernel
theorem dX4_deliver_89 : decode cX4_deliver 89 = .ok (.iload 4, 2) := by decide +kernel
theorem dX4_deliver_91 : decode cX4_deliver 91 = .ok (.iadd, 1) := by decide +kernel
theorem dX4_deliver_92 : decode cX4_deliver 92 = .ok (.putfield 72, 3) := by decide +kernel
theorem dX4_deliver_95 : decode cX4_deliver 95 = .ok (.aload_n 0, 1) := by decide +kernel
theorem dX4_deliver_96 : decode cX4_deliver 96 = .ok (.getfield 25, 3) := by decide +kernel
theorem dX4_deliver_99 : decode cX4_deliver 99 = .ok (.dup, 1) := by decide +kernel
theorem dX4_deliver_100 : decode cX4_deliver 100 = .ok (.getfield 177, 3) := by decide +kernel
theorem dX4_deliver_103 : decode cX4_deliver 103 = .ok (.iload_n 3, 1) := by decide +kernel
theorem dX4_deliver_104 : decode cX4_deliver 104 = .ok (.iload 4, 2) := by decide +kernel
theorem dX4_deliver_106 : decode cX4_deliver 106 = .ok (.isub, 1) := by decide +kernel
theorem dX4_deliver_107 : decode cX4_deliver 107 = .ok (.iadd, 1) := by decide +kernel
theorem dX4_deliver_108 : decode cX4_deliver 108 = .ok (.putfield 177, 3) := by decide +kernel
theorem dX4_deliver_111 : decode cX4_deliver 111 = .ok (.aload_n 1, 1) := by decide +kernel
theorem dX4_deliver_112 : decode cX4_deliver 112 = .ok (.iload_n 3, 1) := by decide +kernel
theorem dX4_deliver_113 : decode cX4_deliver 113 = .ok (.iload 4, 2) := by decide +kernel
theorem dX4_deliver_115 : decode cX4_deliver 115 = .ok (.if_icmp .le 7, 3) := by decide +kernel
theorem dX4_deliver_118 : decode cX4_deliver 118 = .ok (.iconst 1, 1) := by decide +kernel
theorem dX4_deliver_119 : decode cX4_deliver 119 = .ok (.goto 4, 3) := by decide +kernel
theorem dX4_deliver_122 : decode cX4_deliver 122 = .ok (.iconst 0, 1) := by decide +kernel
theorem dX4_deliver_123 : decode cX4_deliver 123 = .ok (.putfield 180, 3) := by decide +kernel
theorem dX4_deliver_126 : decode cX4_deliver 126 = .ok (.return_, 1) := by decide +kernel
theorem dX4_thousandths_0 : decode cX4_thousandths 0 = .ok (.aload_n 0, 1) := by decide +kernel
theorem dX4_thousandths_1 : decode cX4_thousandths 1 = .ok (.getfield 25, 3) := by decide +kernel
theorem dX4_thousandths_4 : decode cX4_thousandths 4 = .ok (.getfield 126, 3) := by decide +kernel
theorem dX4_thousandths_7 : decode cX4_thousandths 7 = .ok (.i2l, 1) := by decide +kernel
theorem dX4_thousandths_8 : decode cX4_thousandths 8 = .ok (.aload_n 0, 1) := by decide +kernel
theorem dX4_thousandths_9 : decode cX4_thousandths 9 = .ok (.getfield 25, 3) := by decide +kernel
theorem dX4_thousandths_12 : decode cX4_thousandths 12 = .ok (.getfield 161, 3) := by decide +kernel
theorem dX4_thousandths_15 : decode cX4_thousandths 15 = .ok (.i2l, 1) := by decide +kernel
theorem dX4_thousandths_16 : decode cX4_thousandths 16 = .ok (.ladd, 1) := by decide +kernel
theorem dX4_thousandths_17 : decode cX4_thousandths 17 = .ok (.aload_n 0, 1) := by decide +kernel
theorem dX4_thousandths_18 : decode cX4_thousandths 18 = .ok (.getfield 25, 3) := by decide +kernel
theorem dX4_thousandths_21 : decode cX4_thousandths 21 = .ok (.getfield 171, 3) := by decide +kernel
theorem dX4_thousandths_24 : decode cX4_thousandths 24 = .ok (.i2l, 1) := by decide +kernel
theorem dX4_thousandths_25 : decode cX4_thousandths 25 = .ok (.ladd, 1) := by decide +kernel
theorem dX4_thousandths_26 : decode cX4_thousandths 26 = .ok (.lstore_n 1, 1) := by decide +kernel
theorem dX4_thousandths_27 : decode cX4_thousandths 27 = .ok (.lload_n 1, 1) := by decide +kernel
theorem dX4_thousandths_28 : decode cX4_thousandths 28 = .ok (.aload_n 0, 1) := by decide +kernel
theorem dX4_thousandths_29 : decode cX4_thousandths 29 = .ok (.getfield 41, 3) := by decide +kernel
theorem dX4_thousandths_32 : decode cX4_thousandths 32 = .ok (.i2l, 1) := by decide +kernel
theorem dX4_thousandths_33 : decode cX4_thousandths 33 = .ok (.lmul, 1) := by decide +kernel
theorem dX4_thousandths_34 : decode cX4_thousandths 34 = .ok (.lstore_n 3, 1) := by decide +kernel
theorem dX4_thousandths_35 : decode cX4_thousandths 35 = .ok (.lload_n 3, 1) := by decide +kernel
theorem dX4_thousandths_36 : decode cX4_thousandths 36 = .ok (.lconst 1, 1) := by decide +kernel
theorem dX4_thousandths_37 : decode cX4_thousandths 37 = .ok (.lcmp, 1) := by decide +kernel
theorem dX4_thousandths_38 : decode cX4_thousandths 38 = .ok (.ifCond .ge 7, 3) := by decide +kernel
theorem dX4_thousandths_41 : decode cX4_thousandths 41 = .ok (.sipush (-1005), 3) := by decide +kernel
theorem dX4_thousandths_44 : decode cX4_thousandths 44 = .ok (.ireturn, 1) := by decide +kernel
theorem dX4_thousandths_45 : decode cX4_thousandths 45 = .ok (.ldc2_w 183, 3) := by decide +kernel
theorem dX4_thousandths_48 : decode cX4_thousandths 48 = .ok (.aload_n 0, 1) := by decide +kernel
theorem dX4_thousandths_49 : decode cX4_thousandths 49 = .ok (.getfield 25, 3) := by decide +kernel
theorem dX4_thousandths_52 : decode cX4_thousandths 52 = .ok (.getfield 171, 3) := by decide +kernel
theorem dX4_thousandths_55 : decode cX4_thousandths 55 = .ok (.i2l, 1) := by decide +kernel
theorem dX4_thousandths_56 : decode cX4_thousandths 56 = .ok (.lmul, 1) := by decide +kernel
theorem dX4_thousandths_57 : decode cX4_thousandths 57 = .ok (.aload_n 0, 1) := by decide +kernel
theorem dX4_thousandths_58 : decode cX4_thousandths 58 = .ok (.getfield 53, 3) := by decide +kernel
theorem dX4_thousandths_61 : decode cX4_thousandths 61 = .ok (.i2l, 1) := by decide +kernel
theorem dX4_thousandths_62 : decode cX4_thousandths 62 = .ok (.lmul, 1) := by decide +kernel
theorem dX4_thousandths_63 : decode cX4_thousandths 63 = .ok (.lload_n 3, 1) := by decide +kernel
theorem dX4_thousandths_64 : decode cX4_thousandths 64 = .ok (.ldiv, 1) := by decide +kernel
theorem dX4_thousandths_65 : decode cX4_thousandths 65 = .ok (.l2i, 1) := by decide +kernel
theorem dX4_thousandths_66 : decode cX4_thousandths 66 = .ok (.ireturn, 1) := by decide +kernel
theorem dX4_slamMark_0 : decode cX4_slamMark 0 = .ok (.aload_n 0, 1) := by decide +kernel
theorem dX4_slamMark_1 : decode cX4_slamMark 1 = .ok (.getfield 60, 3) := by decide +kernel
theorem dX4_slamMark_4 : decode cX4_slamMark 4 = .ok (.i2l, 1) := by decide +kernel
theorem dX4_slamMark_5 : decode cX4_slamMark 5 = .ok (.ldc2_w 185, 3) := by decide +kernel
theorem dX4_slamMark_8 : decode cX4_slamMark 8 = .ok (.lmul, 1) := by decide +kernel
theorem dX4_slamMark_9 : decode cX4_slamMark 9 = .ok (.aload_n 0, 1) := by decide +kernel
theorem dX4_slamMark_10 : decode cX4_slamMark 10 = .ok (.getfield 18, 3) := by decide +kernel
theorem dX4_slamMark_13 : decode cX4_slamMark 13 = .ok (.getfield 168, 3) := by decide +kernel
theorem dX4_slamMark_16 : decode cX4_slamMark 16 = .ok (.i2l, 1) := by decide +kernel
theorem dX4_slamMark_17 : decode cX4_slamMark 17 = .ok (.ladd, 1) := by decide +kernel
theorem dX4_slamMark_18 : decode cX4_slamMark 18 = .ok (.ldc2_w 185, 3) := by decide +kernel
theorem dX4_slamMark_21 : decode cX4_slamMark 21 = .ok (.lmul, 1) := by decide +kernel
theorem dX4_slamMark_22 : decode cX4_slamMark 22 = .ok (.aload_n 0, 1) := by decide +kernel
theorem dX4_slamMark_23 : decode cX4_slamMark 23 = .ok (.getfield 18, 3) := by decide +kernel
theorem dX4_slamMark_26 : decode cX4_slamMark 26 = .ok (.getfield 149, 3) := by decide +kernel
theorem dX4_slamMark_29 : decode cX4_slamMark 29 = .ok (.i2l, 1) := by decide +kernel
theorem dX4_slamMark_30 : decode cX4_slamMark 30 = .ok (.ladd, 1) := by decide +kernel
theorem dX4_slamMark_31 : decode cX4_slamMark 31 = .ok (.lreturn, 1) := by decide +kernel
theorem dX5_init_0 : decode cX5_init 0 = .ok (.aload_n 0, 1) := by decide +kernel
theorem dX5_init_1 : decode cX5_init 1 = .ok (.invokespecial 1, 3) := by decide +kernel
theorem dX5_init_4 : decode cX5_init 4 = .ok (.return_, 1) := by decide +kernel
theorem dX5_clear_0 : decode cX5_clear 0 = .ok (.aload_n 0, 1) := by decide +kernel
theorem dX5_clear_1 : decode cX5_clear 1 = .ok (.iconst 0, 1) := by decide +kernel
theorem dX5_clear_2 : decode cX5_clear 2 = .ok (.putfield 7, 3) := by decide +kernel
theorem dX5_clear_5 : decode cX5_clear 5 = .ok (.aload_n 0, 1) := by decide +kernel
theorem dX5_clear_6 : decode cX5_clear 6 = .ok (.iconst 0, 1) := by decide +kernel
theorem dX5_clear_7 : decode cX5_clear 7 = .ok (.putfield 13, 3) := by decide +kernel
theorem dX5_clear_10 : decode cX5_clear 10 = .ok (.aload_n 0, 1) := by decide +kernel
theorem dX5_clear_11 : decode cX5_clear 11 = .ok (.iconst 0, 1) := by decide +kernel
theorem dX5_clear_12 : decode cX5_clear 12 = .ok (.putfield 16, 3) := by decide +kernel
theorem dX5_clear_15 : decode cX5_clear 15 = .ok (.aload_n 0, 1) := by decide +kernel
theorem dX5_clear_16 : decode cX5_clear 16 = .ok (.iconst 0, 1) := by decide +kernel
theorem dX5_clear_17 : decode cX5_clear 17 = .ok (.putfield 20, 3) := by decide +kernel
theorem dX5_clear_20 : decode cX5_clear 20 = .ok (.aload_n 0, 1) := by decide +kernel
theorem dX5_clear_21 : decode cX5_clear 21 = .ok (.iconst 0, 1) := by decide +kernel
theorem dX5_clear_22 : decode cX5_clear 22 = .ok (.putfield 23, 3) := by decide +kernel
theorem dX5_clear_25 : decode cX5_clear 25 = .ok (.return_, 1) := by decide +kernel
theorem dX6_init_0 : decode cX6_init 0 = .ok (.aload_n 0, 1) := by decide +kernel
theorem dX6_init_1 : decode cX6_init 1 = .ok (.invokespecial 3, 3) := by decide +kernel
theorem dX6_init_4 : decode cX6_init 4 = .ok (.aload_n 0, 1) := by decide +kernel
theorem dX6_init_5 : decode cX6_init 5 = .ok (.iload_n 1, 1) := by decide +kernel
theorem dX6_init_6 : decode cX6_init 6 = .ok (.iconst 1, 1) := by decide +kernel
theorem dX6_init_7 : decode cX6_init 7 = .ok (.invokestatic 9, 3) := by decide +kernel
theorem dX6_init_10 : decode cX6_init 10 = .ok (.newarray .int, 2) := by decide +kernel
theorem dX6_init_12 : decode cX6_init 12 = .ok (.putfield 15, 3) := by decide +kernel
theorem dX6_init_15 : decode cX6_init 15 = .ok (.return_, 1) := by decide +kernel
theorem dX6_add_0 : decode cX6_add 0 = .ok (.aload_n 0, 1) := by decide +kernel
theorem dX6_add_1 : decode cX6_add 1 = .ok (.getfield 21, 3) := by decide +kernel
theorem dX6_add_4 : decode cX6_add 4 = .ok (.ifCond .lt 15, 3) := by decide +kernel
theorem dX6_add_7 : decode cX6_add 7 = .ok (.aload_n 0, 1) := by decide +kernel
theorem dX6_add_8 : decode cX6_add 8 = .ok (.getfield 21, 3) := by decide +kernel
theorem dX6_add_11 : decode cX6_add 11 = .ok (.aload_n 0, 1) := by decide +kernel
theorem dX6_add_12 : decode cX6_add 12 = .ok (.getfield 15, 3) := by decide +kernel
theorem dX6_add_15 : decode cX6_add 15 = .ok (.arraylength, 1) := by decide +kernel
theorem dX6_add_16 : decode cX6_add 16 = .ok (.if_icmp .lt 8, 3) := by decide +kernel
theorem dX6_add_19 : decode cX6_add 19 = .ok (.aload_n 0, 1) := by decide +kernel
theorem dX6_add_20 : decode cX6_add 20 = .ok (.iconst 0, 1) := by decide +kernel
theorem dX6_add_21 : decode cX6_add 21 = .ok (.putfield 21, 3) := by decide +kernel
theorem dX6_add_24 : decode cX6_add 24 = .ok (.aload_n 0, 1) := by decide +kernel
theorem dX6_add_25 : decode cX6_add 25 = .ok (.getfield 15, 3) := by decide +kernel
theorem dX6_add_28 : decode cX6_add 28 = .ok (.aload_n 0, 1) := by decide +kernel
theorem dX6_add_29 : decode cX6_add 29 = .ok (.getfield 21, 3) := by decide +kernel
theorem dX6_add_32 : decode cX6_add 32 = .ok (.iload_n 1, 1) := by decide +kernel
theorem dX6_add_33 : decode cX6_add 33 = .ok (.iastore, 1) := by decide +kernel
theorem dX6_add_34 : decode cX6_add 34 = .ok (.aload_n 0, 1) := by decide +kernel
theorem dX6_add_35 : decode cX6_add 35 = .ok (.dup, 1) := by decide +kernel
theorem dX6_add_36 : decode cX6_add 36 = .ok (.getfield 21, 3) := by decide +kernel
theorem dX6_add_39 : decode cX6_add 39 = .ok (.iconst 1, 1) := by decide +kernel
theorem dX6_add_40 : decode cX6_add 40 = .ok (.iadd, 1) := by decide +kernel
theorem dX6_add_41 : decode cX6_add 41 = .ok (.putfield 21, 3) := by decide +kernel
theorem dX6_add_44 : decode cX6_add 44 = .ok (.aload_n 0, 1) := by decide +kernel
theorem dX6_add_45 : decode cX6_add 45 = .ok (.getfield 25, 3) := by decide +kernel
theorem dX6_add_48 : decode cX6_add 48 = .ok (.aload_n 0, 1) := by decide +kernel
theorem dX6_add_49 : decode cX6_add 49 = .ok (.getfield 15, 3) := by decide +kernel
theorem dX6_add_52 : decode cX6_add 52 = .ok (.arraylength, 1) := by decide +kernel
theorem dX6_add_53 : decode cX6_add 53 = .ok (.if_icmp .ge 13, 3) := by decide +kernel
theorem dX6_add_56 : decode cX6_add 56 = .ok (.aload_n 0, 1) := by decide +kernel
theorem dX6_add_57 : decode cX6_add 57 = .ok (.dup, 1) := by decide +kernel
theorem dX6_add_58 : decode cX6_add 58 = .ok (.getfield 25, 3) := by decide +kernel
theorem dX6_add_61 : decode cX6_add 61 = .ok (.iconst 1, 1) := by decide +kernel
theorem dX6_add_62 : decode cX6_add 62 = .ok (.iadd, 1) := by decide +kernel
theorem dX6_add_63 : decode cX6_add 63 = .ok (.putfield 25, 3) := by decide +kernel
theorem dX6_add_66 : decode cX6_add 66 = .ok (.return_, 1) := by decide +kernel
theorem dX6_latest_0 : decode cX6_latest 0 = .ok (.iload_n 1, 1) := by decide +kernel
theorem dX6_latest_1 : decode cX6_latest 1 = .ok (.iconst 0, 1) := by decide +kernel
theorem dX6_latest_2 : decode cX6_latest 2 = .ok (.aload_n 0, 1) := by decide +kernel
theorem dX6_latest_3 : decode cX6_latest 3 = .ok (.getfield 25, 3) := by decide +kernel
theorem dX6_latest_6 : decode cX6_latest 6 = .ok (.iconst 1, 1) := by decide +kernel
theorem dX6_latest_7 : decode cX6_latest 7 = .ok (.isub, 1) := by decide +kernel
theorem dX6_latest_8 : decode cX6_latest 8 = .ok (.invokestatic 28, 3) := by decide +kernel
theorem dX6_latest_11 : decode cX6_latest 11 = .ok (.ifCond .eq 7, 3) := by decide +kernel
theorem dX6_latest_14 : decode cX6_latest 14 = .ok (.sipush (-1005), 3) := by decide +kernel
theorem dX6_latest_17 : decode cX6_latest 17 = .ok (.ireturn, 1) := by decide +kernel
theorem dX6_latest_18 : decode cX6_latest 18 = .ok (.aload_n 0, 1) := by decide +kernel
theorem dX6_latest_19 : decode cX6_latest 19 = .ok (.getfield 21, 3) := by decide +kernel
theorem dX6_latest_22 : decode cX6_latest 22 = .ok (.iconst 1, 1) := by decide +kernel
theorem dX6_latest_23 : decode cX6_latest 23 = .ok (.isub, 1) := by decide +kernel
theorem dX6_latest_24 : decode cX6_latest 24 = .ok (.iload_n 1, 1) := by decide +kernel
theorem dX6_latest_25 : decode cX6_latest 25 = .ok (.isub, 1) := by decide +kernel
theorem dX6_latest_26 : decode cX6_latest 26 = .ok (.istore_n 2, 1) := by decide +kernel
theorem dX6_latest_27 : decode cX6_latest 27 = .ok (.iload_n 2, 1) := by decide +kernel
theorem dX6_latest_28 : decode cX6_latest 28 = .ok (.ifCond .ge 11, 3) := by decide +kernel
theorem dX6_latest_31 : decode cX6_latest 31 = .ok (.iload_n 2, 1) := by decide +kernel
theorem dX6_latest_32 : decode cX6_latest 32 = .ok (.aload_n 0, 1) := by decide +kernel
theorem dX6_latest_33 : decode cX6_latest 33 = .ok (.getfield 15, 3) := by decide +kernel
theorem dX6_latest_36 : decode cX6_latest 36 = .ok (.arraylength, 1) := by decide +kernel
theorem dX6_latest_37 : decode cX6_latest 37 = .ok (.iadd, 1) := by decide +kernel
theorem dX6_latest_38 : decode cX6_latest 38 = .ok (.istore_n 2, 1) := by decide +kernel
theorem dX6_latest_39 : decode cX6_latest 39 = .ok (.iload_n 2, 1) := by decide +kernel
theorem dX6_latest_40 : decode cX6_latest 40 = .ok (.iconst 0, 1) := by decide +kernel
theorem dX6_latest_41 : decode cX6_latest 41 = .ok (.aload_n 0, 1) := by decide +kernel
theorem dX6_latest_42 : decode cX6_latest 42 = .ok (.getfield 15, 3) := by decide +kernel
theorem dX6_latest_45 : decode cX6_latest 45 = .ok (.arraylength, 1) := by decide +kernel
theorem dX6_latest_46 : decode cX6_latest 46 = .ok (.iconst 1, 1) := by decide +kernel
theorem dX6_latest_47 : decode cX6_latest 47 = .ok (.isub, 1) := by decide +kernel
theorem dX6_latest_48 : decode cX6_latest 48 = .ok (.invokestatic 28, 3) := by decide +kernel
theorem dX6_latest_51 : decode cX6_latest 51 = .ok (.ifCond .eq 9, 3) := by decide +kernel
theorem dX6_latest_54 : decode cX6_latest 54 = .ok (.sipush (-1005), 3) := by decide +kernel
theorem dX6_latest_57 : decode cX6_latest 57 = .ok (.goto 9, 3) := by decide +kernel
theorem dX6_latest_60 : decode cX6_latest 60 = .ok (.aload_n 0, 1) := by decide +kernel
theorem dX6_latest_61 : decode cX6_latest 61 = .ok (.getfield 15, 3) := by decide +kernel
theorem dX6_latest_64 : decode cX6_latest 64 = .ok (.iload_n 2, 1) := by decide +kernel
theorem dX6_latest_65 : decode cX6_latest 65 = .ok (.iaload, 1) := by decide +kernel
theorem dX6_latest_66 : decode cX6_latest 66 = .ok (.ireturn, 1) := by decide +kernel
theorem dX6_copyFrom_0 : decode cX6_copyFrom 0 = .ok (.aload_n 0, 1) := by decide +kernel
theorem dX6_copyFrom_1 : decode cX6_copyFrom 1 = .ok (.aload_n 1, 1) := by decide +kernel
theorem dX6_copyFrom_2 : decode cX6_copyFrom 2 = .ok (.getfield 25, 3) := by decide +kernel
theorem dX6_copyFrom_5 : decode cX6_copyFrom 5 = .ok (.putfield 25, 3) := by decide +kernel
theorem dX6_copyFrom_8 : decode cX6_copyFrom 8 = .ok (.aload_n 0, 1) := by decide +kernel
theorem dX6_copyFrom_9 : decode cX6_copyFrom 9 = .ok (.aload_n 1, 1) := by decide +kernel
theorem dX6_copyFrom_10 : decode cX6_copyFrom 10 = .ok (.getfield 21, 3) := by decide +kernel
theorem dX6_copyFrom_13 : decode cX6_copyFrom 13 = .ok (.putfield 21, 3) := by decide +kernel
theorem dX6_copyFrom_16 : decode cX6_copyFrom 16 = .ok (.aload_n 1, 1) := by decide +kernel
theorem dX6_copyFrom_17 : decode cX6_copyFrom 17 = .ok (.getfield 15, 3) := by decide +kernel
theorem dX6_copyFrom_20 : decode cX6_copyFrom 20 = .ok (.iconst 0, 1) := by decide +kernel
theorem dX6_copyFrom_21 : decode cX6_copyFrom 21 = .ok (.aload_n 0, 1) := by decide +kernel
theorem dX6_copyFrom_22 : decode cX6_copyFrom 22 = .ok (.getfield 15, 3) := by decide +kernel
theorem dX6_copyFrom_25 : decode cX6_copyFrom 25 = .ok (.iconst 0, 1) := by decide +kernel
theorem dX6_copyFrom_26 : decode cX6_copyFrom 26 = .ok (.aload_n 0, 1) := by decide +kernel
theorem dX6_copyFrom_27 : decode cX6_copyFrom 27 = .ok (.getfield 15, 3) := by decide +kernel
theorem dX6_copyFrom_30 : decode cX6_copyFrom 30 = .ok (.arraylength, 1) := by decide +kernel
theorem dX6_copyFrom_31 : decode cX6_copyFrom 31 = .ok (.aload_n 1, 1) := by decide +kernel
theorem dX6_copyFrom_32 : decode cX6_copyFrom 32 = .ok (.getfield 15, 3) := by decide +kernel
theorem dX6_copyFrom_35 : decode cX6_copyFrom 35 = .ok (.arraylength, 1) := by decide +kernel
theorem dX6_copyFrom_36 : decode cX6_copyFrom 36 = .ok (.invokestatic 32, 3) := by decide +kernel
theorem dX6_copyFrom_39 : decode cX6_copyFrom 39 = .ok (.invokestatic 35, 3) := by decide +kernel
theorem dX6_copyFrom_42 : decode cX6_copyFrom 42 = .ok (.return_, 1) := by decide +kernel
theorem dX7_init_0 : decode cX7_init 0 = .ok (.aload_n 0, 1) := by decide +kernel
theorem dX7_init_1 : decode cX7_init 1 = .ok (.invokespecial 3, 3) := by decide +kernel
theorem dX7_init_4 : decode cX7_init 4 = .ok (.aload_n 0, 1) := by decide +kernel
theorem dX7_init_5 : decode cX7_init 5 = .ok (.sipush 5000, 3) := by decide +kernel
theorem dX7_init_8 : decode cX7_init 8 = .ok (.putfield 9, 3) := by decide +kernel
theorem dX7_init_11 : decode cX7_init 11 = .ok (.aload_n 0, 1) := by decide +kernel
theorem dX7_init_12 : decode cX7_init 12 = .ok (.bipush 100, 2) := by decide +kernel
theorem dX7_init_14 : decode cX7_init 14 = .ok (.putfield 15, 3) := by decide +kernel
theorem dX7_init_17 : decode cX7_init 17 = .ok (.aload_n 0, 1) := by decide +kernel
theorem dX7_init_18 : decode cX7_init 18 = .ok (.iconst 4, 1) := by decide +kernel
theorem dX7_init_19 : decode cX7_init 19 = .ok (.anewarray 18, 3) := by decide +kernel
theorem dX7_init_22 : decode cX7_init 22 = .ok (.putfield 20, 3) := by decide +kernel
theorem dX7_init_25 : decode cX7_init 25 = .ok (.iconst 0, 1) := by decide +kernel
theorem dX7_init_26 : decode cX7_init 26 = .ok (.istore_n 1, 1) := by decide +kernel
theorem dX7_init_27 : decode cX7_init 27 = .ok (.iload_n 1, 1) := by decide +kernel
theorem dX7_init_28 : decode cX7_init 28 = .ok (.aload_n 0, 1) := by decide +kernel
theorem dX7_init_29 : decode cX7_init 29 = .ok (.getfield 20, 3) := by decide +kernel
theorem dX7_init_32 : decode cX7_init 32 = .ok (.arraylength, 1) := by decide +kernel
theorem dX7_init_33 : decode cX7_init 33 = .ok (.if_icmp .ge 27, 3) := by decide +kernel
theorem dX7_init_36 : decode cX7_init 36 = .ok (.aload_n 0, 1) := by decide +kernel
theorem dX7_init_37 : decode cX7_init 37 = .ok (.getfield 20, 3) := by decide +kernel
theorem dX7_init_40 : decode cX7_init 40 = .ok (.iload_n 1, 1) := by decide +kernel
theorem dX7_init_41 : decode cX7_init 41 = .ok (.new 18, 3) := by decide +kernel
theorem dX7_init_44 : decode cX7_init 44 = .ok (.dup, 1) := by decide +kernel
theorem dX7_init_45 : decode cX7_init 45 = .ok (.iconst 0, 1) := by decide +kernel
theorem dX7_init_46 : decode cX7_init 46 = .ok (.iconst 1, 1) := by decide +kernel
theorem dX7_init_47 : decode cX7_init 47 = .ok (.iconst 0, 1) := by decide +kernel
theorem dX7_init_48 : decode cX7_init 48 = .ok (.iconst 0, 1) := by decide +kernel
theorem dX7_init_49 : decode cX7_init 49 = .ok (.iconst 0, 1) := by decide +kernel
theorem dX7_init_50 : decode cX7_init 50 = .ok (.invokespecial 24, 3) := by decide +kernel
theorem dX7_init_53 : decode cX7_init 53 = .ok (.aastore, 1) := by decide +kernel
theorem dX7_init_54 : decode cX7_init 54 = .ok (.iinc 1 1, 3) := by decide +kernel
theorem dX7_init_57 : decode cX7_init 57 = .ok (.goto (-30), 3) := by decide +kernel
theorem dX7_init_60 : decode cX7_init 60 = .ok (.return_, 1) := by decide +kernel
theorem dX7_pumpAt_0 : decode cX7_pumpAt 0 = .ok (.iload_n 1, 1) := by decide +kernel
theorem dX7_pumpAt_1 : decode cX7_pumpAt 1 = .ok (.aload_n 0, 1) := by decide +kernel
theorem dX7_pumpAt_2 : decode cX7_pumpAt 2 = .ok (.getfield 27, 3) := by decide +kernel
theorem dX7_pumpAt_5 : decode cX7_pumpAt 5 = .ok (.if_icmp .ge 18, 3) := by decide +kernel
theorem dX7_pumpAt_8 : decode cX7_pumpAt 8 = .ok (.iload_n 1, 1) := by decide +kernel
theorem dX7_pumpAt_9 : decode cX7_pumpAt 9 = .ok (.iconst 0, 1) := by decide +kernel
theorem dX7_pumpAt_10 : decode cX7_pumpAt 10 = .ok (.aload_n 0, 1) := by decide +kernel
theorem dX7_pumpAt_11 : decode cX7_pumpAt 11 = .ok (.getfield 20, 3) := by decide +kernel
theorem dX7_pumpAt_14 : decode cX7_pumpAt 14 = .ok (.arraylength, 1) := by decide +kernel
theorem dX7_pumpAt_15 : decode cX7_pumpAt 15 = .ok (.iconst 1, 1) := by decide +kernel
theorem dX7_pumpAt_16 : decode cX7_pumpAt 16 = .ok (.isub, 1) := by decide +kernel
theorem dX7_pumpAt_17 : decode cX7_pumpAt 17 = .ok (.invokestatic 30, 3) := by decide +kernel
theorem dX7_pumpAt_20 : decode cX7_pumpAt 20 = .ok (.ifCond .eq 5, 3) := by decide +kernel
theorem dX7_pumpAt_23 : decode cX7_pumpAt 23 = .ok (.aconst_null, 1) := by decide +kernel
theorem dX7_pumpAt_24 : decode cX7_pumpAt 24 = .ok (.areturn, 1) := by decide +kernel
theorem dX7_pumpAt_25 : decode cX7_pumpAt 25 = .ok (.aload_n 0, 1) := by decide +kernel
theorem dX7_pumpAt_26 : decode cX7_pumpAt 26 = .ok (.getfield 20, 3) := by decide +kernel
theorem dX7_pumpAt_29 : decode cX7_pumpAt 29 = .ok (.iload_n 1, 1) := by decide +kernel
theorem dX7_pumpAt_30 : decode cX7_pumpAt 30 = .ok (.aaload, 1) := by decide +kernel
theorem dX7_pumpAt_31 : decode cX7_pumpAt 31 = .ok (.areturn, 1) := by decide +kernel
theorem dX7_runningPumps_0 : decode cX7_runningPumps 0 = .ok (.iconst 0, 1) := by decide +kernel
theorem dX7_runningPumps_1 : decode cX7_runningPumps 1 = .ok (.istore_n 1, 1) := by decide +kernel
theorem dX7_runningPumps_2 : decode cX7_runningPumps 2 = .ok (.iconst 0, 1) := by decide +kernel
theorem dX7_runningPumps_3 : decode cX7_runningPumps 3 = .ok (.istore_n 2, 1) := by decide +kernel
theorem dX7_runningPumps_4 : decode cX7_runningPumps 4 = .ok (.iload_n 2, 1) := by decide +kernel
theorem dX7_runningPumps_5 : decode cX7_runningPumps 5 = .ok (.aload_n 0, 1) := by decide +kernel
theorem dX7_runningPumps_6 : decode cX7_runningPumps 6 = .ok (.getfield 27, 3) := by decide +kernel
theorem dX7_runningPumps_9 : decode cX7_runningPumps 9 = .ok (.if_icmp .ge 33, 3) := by decide +kernel
theorem dX7_runningPumps_12 : decode cX7_runningPumps 12 = .ok (.iload_n 2, 1) := by decide +kernel
theorem dX7_runningPumps_13 : decode cX7_runningPumps 13 = .ok (.aload_n 0, 1) := by decide +kernel
theorem dX7_runningPumps_14 : decode cX7_runningPumps 14 = .ok (.getfield 20, 3) := by decide +kernel
theorem dX7_runningPumps_17 : decode cX7_runningPumps 17 = .ok (.arraylength, 1) := by decide +kernel
theorem dX7_runningPumps_18 : decode cX7_runningPumps 18 = .ok (.if_icmp .ge 24, 3) := by decide +kernel
theorem dX7_runningPumps_21 : decode cX7_runningPumps 21 = .ok (.aload_n 0, 1) := by decide +kernel
theorem dX7_runningPumps_22 : decode cX7_runningPumps 22 = .ok (.getfield 20, 3) := by decide +kernel
theorem dX7_runningPumps_25 : decode cX7_runningPumps 25 = .ok (.iload_n 2, 1) := by decide +kernel
theorem dX7_runningPumps_26 : decode cX7_runningPumps 26 = .ok (.aaload, 1) := by decide +kernel
theorem dX7_runningPumps_27 : decode cX7_runningPumps 27 = .ok (.getfield 34, 3) := by decide +kernel
theorem dX7_runningPumps_30 : decode cX7_runningPumps 30 = .ok (.ifCond .eq 6, 3) := by decide +kernel
theorem dX7_runningPumps_33 : decode cX7_runningPumps 33 = .ok (.iinc 1 1, 3) := by decide +kernel
theorem dX7_runningPumps_36 : decode cX7_runningPumps 36 = .ok (.iinc 2 1, 3) := by decide +kernel
theorem dX7_runningPumps_39 : decode cX7_runningPumps 39 = .ok (.goto (-35), 3) := by decide +kernel
theorem dX7_runningPumps_42 : decode cX7_runningPumps 42 = .ok (.iload_n 1, 1) := by decide +kernel
theorem dX7_runningPumps_43 : decode cX7_runningPumps 43 = .ok (.ireturn, 1) := by decide +kernel
theorem dX7_fillBasin_0 : decode cX7_fillBasin 0 = .ok (.iload_n 1, 1) := by decide +kernel
theorem dX7_fillBasin_1 : decode cX7_fillBasin 1 = .ok (.sipush 20000, 3) := by decide +kernel
theorem dX7_fillBasin_4 : decode cX7_fillBasin 4 = .ok (.aload_n 0, 1) := by decide +kernel
theorem dX7_fillBasin_5 : decode cX7_fillBasin 5 = .ok (.getfield 9, 3) := by decide +kernel
theorem dX7_fillBasin_8 : decode cX7_fillBasin 8 = .ok (.isub, 1) := by decide +kernel
theorem dX7_fillBasin_9 : decode cX7_fillBasin 9 = .ok (.invokestatic 38, 3) := by decide +kernel
theorem dX7_fillBasin_12 : decode cX7_fillBasin 12 = .ok (.istore_n 2, 1) := by decide +kernel
theorem dX7_fillBasin_13 : decode cX7_fillBasin 13 = .ok (.aload_n 0, 1) := by decide +kernel
theorem dX7_fillBasin_14 : decode cX7_fillBasin 14 = .ok (.dup, 1) := by decide +kernel
theorem dX7_fillBasin_15 : decode cX7_fillBasin 15 = .ok (.getfield 9, 3) := by decide +kernel
theorem dX7_fillBasin_18 : decode cX7_fillBasin 18 = .ok (.iload_n 2, 1) := by decide +kernel
theorem dX7_fillBasin_19 : decode cX7_fillBasin 19 = .ok (.iadd, 1) := by decide +kernel
theorem dX7_fillBasin_20 : decode cX7_fillBasin 20 = .ok (.putfield 9, 3) := by decide +kernel
theorem dX7_fillBasin_23 : decode cX7_fillBasin 23 = .ok (.aload_n 0, 1) := by decide +kernel
theorem dX7_fillBasin_24 : decode cX7_fillBasin 24 = .ok (.dup, 1) := by decide +kernel
theorem dX7_fillBasin_25 : decode cX7_fillBasin 25 = .ok (.getfield 44, 3) := by decide +kernel
theorem dX7_fillBasin_28 : decode cX7_fillBasin 28 = .ok (.iload_n 1, 1) := by decide +kernel
theorem dX7_fillBasin_29 : decode cX7_fillBasin 29 = .ok (.iload_n 2, 1) := by decide +kernel
theorem dX7_fillBasin_30 : decode cX7_fillBasin 30 = .ok (.isub, 1) := by decide +kernel
theorem dX7_fillBasin_31 : decode cX7_fillBasin 31 = .ok (.iadd, 1) := by decide +kernel
theorem dX7_fillBasin_32 : decode cX7_fillBasin 32 = .ok (.putfield 44, 3) := by decide +kernel
theorem dX7_fillBasin_35 : decode cX7_fillBasin 35 = .ok (.return_, 1) := by decide +kernel
theorem dX7_copyFrom_0 : decode cX7_copyFrom 0 = .ok (.aload_n 0, 1) := by decide +kernel
theorem dX7_copyFrom_1 : decode cX7_copyFrom 1 = .ok (.aload_n 1, 1) := by decide +kernel
theorem dX7_copyFrom_2 : decode cX7_copyFrom 2 = .ok (.getfield 47, 3) := by decide +kernel
theorem dX7_copyFrom_5 : decode cX7_copyFrom 5 = .ok (.putfield 47, 3) := by decide +kernel
theorem dX7_copyFrom_8 : decode cX7_copyFrom 8 = .ok (.aload_n 0, 1) := by decide +kernel
theorem dX7_copyFrom_9 : decode cX7_copyFrom 9 = .ok (.aload_n 1, 1) := by decide +kernel
theorem dX7_copyFrom_10 : decode cX7_copyFrom 10 = .ok (.getfield 9, 3) := by decide +kernel
theorem dX7_copyFrom_13 : decode cX7_copyFrom 13 = .ok (.putfield 9, 3) := by decide +kernel
theorem dX7_copyFrom_16 : decode cX7_copyFrom 16 = .ok (.aload_n 0, 1) := by decide +kernel
theorem dX7_copyFrom_17 : decode cX7_copyFrom 17 = .ok (.aload_n 1, 1) := by decide +kernel
theorem dX7_copyFrom_18 : decode cX7_copyFrom 18 = .ok (.getfield 44, 3) := by decide +kernel
theorem dX7_copyFrom_21 : decode cX7_copyFrom 21 = .ok (.putfield 44, 3) := by decide +kernel
theorem dX7_copyFrom_24 : decode cX7_copyFrom 24 = .ok (.aload_n 0, 1) := by decide +kernel
theorem dX7_copyFrom_25 : decode cX7_copyFrom 25 = .ok (.aload_n 1, 1) := by decide +kernel
theorem dX7_copyFrom_26 : decode cX7_copyFrom 26 = .ok (.getfield 15, 3) := by decide +kernel
theorem dX7_copyFrom_29 : decode cX7_copyFrom 29 = .ok (.putfield 15, 3) := by decide +kernel
theorem dX7_copyFrom_32 : decode cX7_copyFrom 32 = .ok (.aload_n 0, 1) := by decide +kernel
theorem dX7_copyFrom_33 : decode cX7_copyFrom 33 = .ok (.aload_n 1, 1) := by decide +kernel
theorem dX7_copyFrom_34 : decode cX7_copyFrom 34 = .ok (.getfield 27, 3) := by decide +kernel
theorem dX7_copyFrom_37 : decode cX7_copyFrom 37 = .ok (.putfield 27, 3) := by decide +kernel
theorem dX7_copyFrom_40 : decode cX7_copyFrom 40 = .ok (.iconst 0, 1) := by decide +kernel
theorem dX7_copyFrom_41 : decode cX7_copyFrom 41 = .ok (.istore_n 2, 1) := by decide +kernel
theorem dX7_copyFrom_42 : decode cX7_copyFrom 42 = .ok (.iload_n 2, 1) := by decide +kernel
theorem dX7_copyFrom_43 : decode cX7_copyFrom 43 = .ok (.aload_n 0, 1) := by decide +kernel
theorem dX7_copyFrom_44 : decode cX7_copyFrom 44 = .ok (.getfield 27, 3) := by decide +kernel
theorem dX7_copyFrom_47 : decode cX7_copyFrom 47 = .ok (.if_icmp .ge 42, 3) := by decide +kernel
theorem dX7_copyFrom_50 : decode cX7_copyFrom 50 = .ok (.iload_n 2, 1) := by decide +kernel
theorem dX7_copyFrom_51 : decode cX7_copyFrom 51 = .ok (.aload_n 0, 1) := by decide +kernel
theorem dX7_copyFrom_52 : decode cX7_copyFrom 52 = .ok (.getfield 20, 3) := by decide +kernel
theorem dX7_copyFrom_55 : decode cX7_copyFrom 55 = .ok (.arraylength, 1) := by decide +kernel
theorem dX7_copyFrom_56 : decode cX7_copyFrom 56 = .ok (.if_icmp .ge 33, 3) := by decide +kernel
theorem dX7_copyFrom_59 : decode cX7_copyFrom 59 = .ok (.iload_n 2, 1) := by decide +kernel
theorem dX7_copyFrom_60 : decode cX7_copyFrom 60 = .ok (.aload_n 1, 1) := by decide +kernel
theorem dX7_copyFrom_61 : decode cX7_copyFrom 61 = .ok (.getfield 20, 3) := by decide +kernel
theorem dX7_copyFrom_64 : decode cX7_copyFrom 64 = .ok (.arraylength, 1) := by decide +kernel
theorem dX7_copyFrom_65 : decode cX7_copyFrom 65 = .ok (.if_icmp .ge 24, 3) := by decide +kernel
theorem dX7_copyFrom_68 : decode cX7_copyFrom 68 = .ok (.aload_n 0, 1) := by decide +kernel
theorem dX7_copyFrom_69 : decode cX7_copyFrom 69 = .ok (.getfield 20, 3) := by decide +kernel
theorem dX7_copyFrom_72 : decode cX7_copyFrom 72 = .ok (.iload_n 2, 1) := by decide +kernel
theorem dX7_copyFrom_73 : decode cX7_copyFrom 73 = .ok (.aaload, 1) := by decide +kernel
theorem dX7_copyFrom_74 : decode cX7_copyFrom 74 = .ok (.aload_n 1, 1) := by decide +kernel
theorem dX7_copyFrom_75 : decode cX7_copyFrom 75 = .ok (.getfield 20, 3) := by decide +kernel
theorem dX7_copyFrom_78 : decode cX7_copyFrom 78 = .ok (.iload_n 2, 1) := by decide +kernel
theorem dX7_copyFrom_79 : decode cX7_copyFrom 79 = .ok (.aaload, 1) := by decide +kernel
theorem dX7_copyFrom_80 : decode cX7_copyFrom 80 = .ok (.invokevirtual 50, 3) := by decide +kernel
theorem dX7_copyFrom_83 : decode cX7_copyFrom 83 = .ok (.iinc 2 1, 3) := by decide +kernel
theorem dX7_copyFrom_86 : decode cX7_copyFrom 86 = .ok (.goto (-44), 3) := by decide +kernel
theorem dX7_copyFrom_89 : decode cX7_copyFrom 89 = .ok (.return_, 1) := by decide +kernel
theorem dX8_init_0 : decode cX8_init 0 = .ok (.aload_n 0, 1) := by decide +kernel
theorem dX8_init_1 : decode cX8_init 1 = .ok (.invokespecial 1, 3) := by decide +kernel
theorem dX8_init_4 : decode cX8_init 4 = .ok (.aload_n 0, 1) := by decide +kernel
theorem dX8_init_5 : decode cX8_init 5 = .ok (.new 7, 3) := by decide +kernel
theorem dX8_init_8 : decode cX8_init 8 = .ok (.dup, 1) := by decide +kernel
theorem dX8_init_9 : decode cX8_init 9 = .ok (.invokespecial 9, 3) := by decide +kernel
theorem dX8_init_12 : decode cX8_init 12 = .ok (.putfield 10, 3) := by decide +kernel
theorem dX8_init_15 : decode cX8_init 15 = .ok (.aload_n 0, 1) := by decide +kernel
theorem dX8_init_16 : decode cX8_init 16 = .ok (.bipush 8, 2) := by decide +kernel
theorem dX8_init_18 : decode cX8_init 18 = .ok (.anewarray 7, 3) := by decide +kernel
theorem dX8_init_21 : decode cX8_init 21 = .ok (.putfield 16, 3) := by decide +kernel
theorem dX8_init_24 : decode cX8_init 24 = .ok (.aload_n 0, 1) := by decide +kernel
theorem dX8_init_25 : decode cX8_init 25 = .ok (.sipush (-1005), 3) := by decide +kernel
theorem dX8_init_28 : decode cX8_init 28 = .ok (.putfield 20, 3) := by decide +kernel
theorem dX8_init_31 : decode cX8_init 31 = .ok (.aload_n 0, 1) := by decide +kernel
theorem dX8_init_32 : decode cX8_init 32 = .ok (.new 24, 3) := by decide +kernel
theorem dX8_init_35 : decode cX8_init 35 = .ok (.dup, 1) := by decide +kernel
theorem dX8_init_36 : decode cX8_init 36 = .ok (.invokespecial 26, 3) := by decide +kernel
theorem dX8_init_39 : decode cX8_init 39 = .ok (.putfield 27, 3) := by decide +kernel
theorem dX8_init_42 : decode cX8_init 42 = .ok (.aload_n 0, 1) := by decide +kernel
theorem dX8_init_43 : decode cX8_init 43 = .ok (.new 31, 3) := by decide +kernel
theorem dX8_init_46 : decode cX8_init 46 = .ok (.dup, 1) := by decide +kernel
theorem dX8_init_47 : decode cX8_init 47 = .ok (.invokespecial 33, 3) := by decide +kernel
theorem dX8_init_50 : decode cX8_init 50 = .ok (.putfield 34, 3) := by decide +kernel
theorem dX8_init_53 : decode cX8_init 53 = .ok (.aload_n 0, 1) := by decide +kernel
theorem dX8_init_54 : decode cX8_init 54 = .ok (.new 38, 3) := by decide +kernel
theorem dX8_init_57 : decode cX8_init 57 = .ok (.dup, 1) := by decide +kernel
theorem dX8_init_58 : decode cX8_init 58 = .ok (.invokespecial 40, 3) := by decide +kernel
theorem dX8_init_61 : decode cX8_init 61 = .ok (.putfield 41, 3) := by decide +kernel
theorem dX8_init_64 : decode cX8_init 64 = .ok (.aload_n 0, 1) := by decide +kernel
theorem dX8_init_65 : decode cX8_init 65 = .ok (.new 45, 3) := by decide +kernel
theorem dX8_init_68 : decode cX8_init 68 = .ok (.dup, 1) := by decide +kernel
theorem dX8_init_69 : decode cX8_init 69 = .ok (.iconst 0, 1) := by decide +kernel
theorem dX8_init_70 : decode cX8_init 70 = .ok (.iconst 1, 1) := by decide +kernel
theorem dX8_init_71 : decode cX8_init 71 = .ok (.iconst 0, 1) := by decide +kernel
theorem dX8_init_72 : decode cX8_init 72 = .ok (.iconst 0, 1) := by decide +kernel
theorem dX8_init_73 : decode cX8_init 73 = .ok (.iconst 0, 1) := by decide +kernel
theorem dX8_init_74 : decode cX8_init 74 = .ok (.invokespecial 47, 3) := by decide +kernel
theorem dX8_init_77 : decode cX8_init 77 = .ok (.putfield 50, 3) := by decide +kernel
theorem dX8_init_80 : decode cX8_init 80 = .ok (.aload_n 0, 1) := by decide +kernel
theorem dX8_init_81 : decode cX8_init 81 = .ok (.sipush 2000, 3) := by decide +kernel
theorem dX8_init_84 : decode cX8_init 84 = .ok (.newarray .long, 2) := by decide +kernel
theorem dX8_init_86 : decode cX8_init 86 = .ok (.putfield 54, 3) := by decide +kernel
theorem dX8_init_89 : decode cX8_init 89 = .ok (.iconst 0, 1) := by decide +kernel
theorem dX8_init_90 : decode cX8_init 90 = .ok (.istore_n 1, 1) := by decide +kernel
theorem dX8_init_91 : decode cX8_init 91 = .ok (.iload_n 1, 1) := by decide +kernel
theorem dX8_init_92 : decode cX8_init 92 = .ok (.aload_n 0, 1) := by decide +kernel
theorem dX8_init_93 : decode cX8_init 93 = .ok (.getfield 16, 3) := by decide +kernel
theorem dX8_init_96 : decode cX8_init 96 = .ok (.arraylength, 1) := by decide +kernel
theorem dX8_init_97 : decode cX8_init 97 = .ok (.if_icmp .ge 22, 3) := by decide +kernel
theorem dX8_init_100 : decode cX8_init 100 = .ok (.aload_n 0, 1) := by decide +kernel
theorem dX8_init_101 : decode cX8_init 101 = .ok (.getfield 16, 3) := by decide +kernel
theorem dX8_init_104 : decode cX8_init 104 = .ok (.iload_n 1, 1) := by decide +kernel
theorem dX8_init_105 : decode cX8_init 105 = .ok (.new 7, 3) := by decide +kernel
theorem dX8_init_108 : decode cX8_init 108 = .ok (.dup, 1) := by decide +kernel
theorem dX8_init_109 : decode cX8_init 109 = .ok (.invokespecial 9, 3) := by decide +kernel
theorem dX8_init_112 : decode cX8_init 112 = .ok (.aastore, 1) := by decide +kernel
theorem dX8_init_113 : decode cX8_init 113 = .ok (.iinc 1 1, 3) := by decide +kernel
theorem dX8_init_116 : decode cX8_init 116 = .ok (.goto (-25), 3) := by decide +kernel
theorem dX8_init_119 : decode cX8_init 119 = .ok (.return_, 1) := by decide +kernel
theorem dX8_addPump_0 : decode cX8_addPump 0 = .ok (.iload_n 1, 1) := by decide +kernel
theorem dX8_addPump_1 : decode cX8_addPump 1 = .ok (.bipush 10, 2) := by decide +kernel
theorem dX8_addPump_3 : decode cX8_addPump 3 = .ok (.bipush 99, 2) := by decide +kernel
theorem dX8_addPump_5 : decode cX8_addPump 5 = .ok (.invokestatic 58, 3) := by decide +kernel
theorem dX8_addPump_8 : decode cX8_addPump 8 = .ok (.ifCond .ne 50, 3) := by decide +kernel
theorem dX8_addPump_11 : decode cX8_addPump 11 = .ok (.iload_n 2, 1) := by decide +kernel
theorem dX8_addPump_12 : decode cX8_addPump 12 = .ok (.bipush 10, 2) := by decide +kernel
theorem dX8_addPump_14 : decode cX8_addPump 14 = .ok (.sipush 400, 3) := by decide +kernel
theorem dX8_addPump_17 : decode cX8_addPump 17 = .ok (.invokestatic 58, 3) := by decide +kernel
theorem dX8_addPump_20 : decode cX8_addPump 20 = .ok (.ifCond .ne 38, 3) := by decide +kernel
theorem dX8_addPump_23 : decode cX8_addPump 23 = .ok (.iload_n 3, 1) := by decide +kernel
theorem dX8_addPump_24 : decode cX8_addPump 24 = .ok (.iconst 1, 1) := by decide +kernel
theorem dX8_addPump_25 : decode cX8_addPump 25 = .ok (.bipush 20, 2) := by decide +kernel
theorem dX8_addPump_27 : decode cX8_addPump 27 = .ok (.invokestatic 58, 3) := by decide +kernel
theorem dX8_addPump_30 : decode cX8_addPump 30 = .ok (.ifCond .ne 28, 3) := by decide +kernel
theorem dX8_addPump_33 : decode cX8_addPump 33 = .ok (.iload 4, 2) := by decide +kernel
theorem dX8_addPump_35 : decode cX8_addPump 35 = .ok (.iconst 0, 1) := by decide +kernel
theorem dX8_addPump_36 : decode cX8_addPump 36 = .ok (.bipush 100, 2) := by decide +kernel
theorem dX8_addPump_38 : decode cX8_addPump 38 = .ok (.invokestatic 58, 3) := by decide +kernel
theorem dX8_addPump_41 : decode cX8_addPump 41 = .ok (.ifCond .ne 17, 3) := by decide +kernel
theorem dX8_addPump_44 : decode cX8_addPump 44 = .ok (.iload 5, 2) := by decide +kernel
theorem dX8_addPump_46 : decode cX8_addPump 46 = .ok (.iload_n 1, 1) := by decide +kernel
theorem dX8_addPump_47 : decode cX8_addPump 47 = .ok (.iconst 1, 1) := by decide +kernel
theorem dX8_addPump_48 : decode cX8_addPump 48 = .ok (.iadd, 1) := by decide +kernel
theorem dX8_addPump_49 : decode cX8_addPump 49 = .ok (.sipush 500, 3) := by decide +kernel
theorem dX8_addPump_52 : decode cX8_addPump 52 = .ok (.invokestatic 58, 3) := by decide +kernel
theorem dX8_addPump_55 : decode cX8_addPump 55 = .ok (.ifCond .eq 7, 3) := by decide +kernel
theorem dX8_addPump_58 : decode cX8_addPump 58 = .ok (.sipush (-1002), 3) := by decide +kernel
theorem dX8_addPump_61 : decode cX8_addPump 61 = .ok (.ireturn, 1) := by decide +kernel
theorem dX8_addPump_62 : decode cX8_addPump 62 = .ok (.aload_n 0, 1) := by decide +kernel
theorem dX8_addPump_63 : decode cX8_addPump 63 = .ok (.getfield 10, 3) := by decide +kernel
theorem dX8_addPump_66 : decode cX8_addPump 66 = .ok (.getfield 62, 3) := by decide +kernel
theorem dX8_addPump_69 : decode cX8_addPump 69 = .ok (.istore 6, 2) := by decide +kernel
theorem dX8_addPump_71 : decode cX8_addPump 71 = .ok (.iload 6, 2) := by decide +kernel
theorem dX8_addPump_73 : decode cX8_addPump 73 = .ok (.iconst 0, 1) := by decide +kernel
theorem dX8_addPump_74 : decode cX8_addPump 74 = .ok (.aload_n 0, 1) := by decide +kernel
theorem dX8_addPump_75 : decode cX8_addPump 75 = .ok (.getfield 10, 3) := by decide +kernel
theorem dX8_addPump_78 : decode cX8_addPump 78 = .ok (.getfield 65, 3) := by decide +kernel
theorem dX8_addPump_81 : decode cX8_addPump 81 = .ok (.arraylength, 1) := by decide +kernel
theorem dX8_addPump_82 : decode cX8_addPump 82 = .ok (.iconst 1, 1) := by decide +kernel
theorem dX8_addPump_83 : decode cX8_addPump 83 = .ok (.isub, 1) := by decide +kernel
theorem dX8_addPump_84 : decode cX8_addPump 84 = .ok (.invokestatic 58, 3) := by decide +kernel
theorem dX8_addPump_87 : decode cX8_addPump 87 = .ok (.ifCond .eq 7, 3) := by decide +kernel
theorem dX8_addPump_90 : decode cX8_addPump 90 = .ok (.sipush (-1004), 3) := by decide +kernel
theorem dX8_addPump_93 : decode cX8_addPump 93 = .ok (.ireturn, 1) := by decide +kernel
theorem dX8_addPump_94 : decode cX8_addPump 94 = .ok (.aload_n 0, 1) := by decide +kernel
theorem dX8_addPump_95 : decode cX8_addPump 95 = .ok (.invokevirtual 69, 3) := by decide +kernel
theorem dX8_addPump_98 : decode cX8_addPump 98 = .ok (.aload_n 0, 1) := by decide +kernel
theorem dX8_addPump_99 : decode cX8_addPump 99 = .ok (.getfield 10, 3) := by decide +kernel
theorem dX8_addPump_102 : decode cX8_addPump 102 = .ok (.getfield 65, 3) := by decide +kernel
theorem dX8_addPump_105 : decode cX8_addPump 105 = .ok (.iload 6, 2) := by decide +kernel
theorem dX8_addPump_107 : decode cX8_addPump 107 = .ok (.new 45, 3) := by decide +kernel
theorem dX8_addPump_110 : decode cX8_addPump 110 = .ok (.dup, 1) := by decide +kernel
theorem dX8_addPump_111 : decode cX8_addPump 111 = .ok (.iload_n 1, 1) := by decide +kernel
theorem dX8_addPump_112 : decode cX8_addPump 112 = .ok (.iload_n 2, 1) := by decide +kernel
theorem dX8_addPump_113 : decode cX8_addPump 113 = .ok (.iload_n 3, 1) := by decide +kernel
theorem dX8_addPump_114 : decode cX8_addPump 114 = .ok (.iload 4, 2) := by decide +kernel
theorem dX8_addPump_116 : decode cX8_addPump 116 = .ok (.iload 5, 2) := by decide +kernel
theorem dX8_addPump_118 : decode cX8_addPump 118 = .ok (.invokespecial 47, 3) := by decide +kernel
theorem dX8_addPump_121 : decode cX8_addPump 121 = .ok (.aastore, 1) := by decide +kernel
theorem dX8_addPump_122 : decode cX8_addPump 122 = .ok (.aload_n 0, 1) := by decide +kernel
theorem dX8_addPump_123 : decode cX8_addPump 123 = .ok (.getfield 10, 3) := by decide +kernel
theorem dX8_addPump_126 : decode cX8_addPump 126 = .ok (.iload 6, 2) := by decide +kernel
theorem dX8_addPump_128 : decode cX8_addPump 128 = .ok (.iconst 1, 1) := by decide +kernel
theorem dX8_addPump_129 : decode cX8_addPump 129 = .ok (.iadd, 1) := by decide +kernel
theorem dX8_addPump_130 : decode cX8_addPump 130 = .ok (.putfield 62, 3) := by decide +kernel
theorem dX8_addPump_133 : decode cX8_addPump 133 = .ok (.iload 6, 2) := by decide +kernel
theorem dX8_addPump_135 : decode cX8_addPump 135 = .ok (.ireturn, 1) := by decide +kernel
theorem dX8_setValve_0 : decode cX8_setValve 0 = .ok (.aload_n 0, 1) := by decide +kernel
theorem dX8_setValve_1 : decode cX8_setValve 1 = .ok (.getfield 10, 3) := by decide +kernel
theorem dX8_setValve_4 : decode cX8_setValve 4 = .ok (.iload_n 1, 1) := by decide +kernel
theorem dX8_setValve_5 : decode cX8_setValve 5 = .ok (.invokevirtual 72, 3) := by decide +kernel
theorem dX8_setValve_8 : decode cX8_setValve 8 = .ok (.astore 4, 2) := by decide +kernel
theorem dX8_setValve_10 : decode cX8_setValve 10 = .ok (.aload 4, 2) := by decide +kernel
theorem dX8_setValve_12 : decode cX8_setValve 12 = .ok (.ifnonnull 7, 3) := by decide +kernel
theorem dX8_setValve_15 : decode cX8_setValve 15 = .ok (.sipush (-1001), 3) := by decide +kernel
theorem dX8_setValve_18 : decode cX8_setValve 18 = .ok (.ireturn, 1) := by decide +kernel
theorem dX8_setValve_19 : decode cX8_setValve 19 = .ok (.iload_n 2, 1) := by decide +kernel
theorem dX8_setValve_20 : decode cX8_setValve 20 = .ok (.iconst 0, 1) := by decide +kernel
theorem dX8_setValve_21 : decode cX8_setValve 21 = .ok (.iconst 2, 1) := by decide +kernel
theorem dX8_setValve_22 : decode cX8_setValve 22 = .ok (.invokestatic 58, 3) := by decide +kernel
theorem dX8_setValve_25 : decode cX8_setValve 25 = .ok (.ifCond .ne 14, 3) := by decide +kernel
theorem dX8_setValve_28 : decode cX8_setValve 28 = .ok (.iload_n 3, 1) := by decide +kernel
theorem dX8_setValve_29 : decode cX8_setValve 29 = .ok (.iconst 1, 1) := by decide +kernel
theorem dX8_setValve_30 : decode cX8_setValve 30 = .ok (.sipush 500, 3) := by decide +kernel
theorem dX8_setValve_33 : decode cX8_setValve 33 = .ok (.invokestatic 58, 3) := by decide +kernel
theorem dX8_setValve_36 : decode cX8_setValve 36 = .ok (.ifCond .eq 7, 3) := by decide +kernel
theorem dX8_setValve_39 : decode cX8_setValve 39 = .ok (.sipush (-1002), 3) := by decide +kernel
theorem dX8_setValve_42 : decode cX8_setValve 42 = .ok (.ireturn, 1) := by decide +kernel
theorem dX8_setValve_43 : decode cX8_setValve 43 = .ok (.aload 4, 2) := by decide +kernel
theorem dX8_setValve_45 : decode cX8_setValve 45 = .ok (.getfield 76, 3) := by decide +kernel
theorem dX8_setValve_48 : decode cX8_setValve 48 = .ok (.ifCond .eq 7, 3) := by decide +kernel
theorem dX8_setValve_51 : decode cX8_setValve 51 = .ok (.sipush (-1003), 3) := by decide +kernel
theorem dX8_setValve_54 : decode cX8_setValve 54 = .ok (.ireturn, 1) := by decide +kernel
theorem dX8_setValve_55 : decode cX8_setValve 55 = .ok (.aload_n 0, 1) := by decide +kernel
theorem dX8_setValve_56 : decode cX8_setValve 56 = .ok (.invokevirtual 69, 3) := by decide +kernel
theorem dX8_setValve_59 : decode cX8_setValve 59 = .ok (.aload 4, 2) := by decide +kernel
theorem dX8_setValve_61 : decode cX8_setValve 61 = .ok (.getfield 80, 3) := by decide +kernel
theorem dX8_setValve_64 : decode cX8_setValve 64 = .ok (.istore 5, 2) := by decide +kernel
theorem dX8_setValve_66 : decode cX8_setValve 66 = .ok (.aload 4, 2) := by decide +kernel
theorem dX8_setValve_68 : decode cX8_setValve 68 = .ok (.iload_n 2, 1) := by decide +kernel
theorem dX8_setValve_69 : decode cX8_setValve 69 = .ok (.putfield 83, 3) := by decide +kernel
theorem dX8_setValve_72 : decode cX8_setValve 72 = .ok (.aload 4, 2) := by decide +kernel
theorem dX8_setValve_74 : decode cX8_setValve 74 = .ok (.iload_n 3, 1) := by decide +kernel
theorem dX8_setValve_75 : decode cX8_setValve 75 = .ok (.putfield 80, 3) := by decide +kernel
theorem dX8_setValve_78 : decode cX8_setValve 78 = .ok (.iload 5, 2) := by decide +kernel
theorem dX8_setValve_80 : decode cX8_setValve 80 = .ok (.ireturn, 1) := by decide +kernel
theorem dX8_setChamber_0 : decode cX8_setChamber 0 = .ok (.aload_n 0, 1) := by decide +kernel
theorem dX8_setChamber_1 : decode cX8_setChamber 1 = .ok (.getfield 10, 3) := by decide +kernel
theorem dX8_setChamber_4 : decode cX8_setChamber 4 = .ok (.iload_n 1, 1) := by decide +kernel
theorem dX8_setChamber_5 : decode cX8_setChamber 5 = .ok (.invokevirtual 72, 3) := by decide +kernel
theorem dX8_setChamber_8 : decode cX8_setChamber 8 = .ok (.astore 4, 2) := by decide +kernel
theorem dX8_setChamber_10 : decode cX8_setChamber 10 = .ok (.aload 4, 2) := by decide +kernel
theorem dX8_setChamber_12 : decode cX8_setChamber 12 = .ok (.ifnonnull 7, 3) := by decide +kernel
theorem dX8_setChamber_15 : decode cX8_setChamber 15 = .ok (.sipush (-1001), 3) := by decide +kernel
theorem dX8_setChamber_18 : decode cX8_setChamber 18 = .ok (.ireturn, 1) := by decide +kernel
theorem dX8_setChamber_19 : decode cX8_setChamber 19 = .ok (.iload_n 2, 1) := by decide +kernel
theorem dX8_setChamber_20 : decode cX8_setChamber 20 = .ok (.bipush 50, 2) := by decide +kernel
theorem dX8_setChamber_22 : decode cX8_setChamber 22 = .ok (.sipush 2000, 3) := by decide +kernel
theorem dX8_setChamber_25 : decode cX8_setChamber 25 = .ok (.invokestatic 58, 3) := by decide +kernel
theorem dX8_setChamber_28 : decode cX8_setChamber 28 = .ok (.ifCond .eq 7, 3) := by decide +kernel
theorem dX8_setChamber_31 : decode cX8_setChamber 31 = .ok (.sipush (-1002), 3) := by decide +kernel
theorem dX8_setChamber_34 : decode cX8_setChamber 34 = .ok (.ireturn, 1) := by decide +kernel
theorem dX8_setChamber_35 : decode cX8_setChamber 35 = .ok (.aload 4, 2) := by decide +kernel
theorem dX8_setChamber_37 : decode cX8_setChamber 37 = .ok (.getfield 76, 3) := by decide +kernel
theorem dX8_setChamber_40 : decode cX8_setChamber 40 = .ok (.ifCond .eq 7, 3) := by decide +kernel
theorem dX8_setChamber_43 : decode cX8_setChamber 43 = .ok (.sipush (-1003), 3) := by decide +kernel
theorem dX8_setChamber_46 : decode cX8_setChamber 46 = .ok (.ireturn, 1) := by decide +kernel
theorem dX8_setChamber_47 : decode cX8_setChamber 47 = .ok (.aload_n 0, 1) := by decide +kernel
theorem dX8_setChamber_48 : decode cX8_setChamber 48 = .ok (.invokevirtual 69, 3) := by decide +kernel
theorem dX8_setChamber_51 : decode cX8_setChamber 51 = .ok (.aload 4, 2) := by decide +kernel
theorem dX8_setChamber_53 : decode cX8_setChamber 53 = .ok (.getfield 86, 3) := by decide +kernel
theorem dX8_setChamber_56 : decode cX8_setChamber 56 = .ok (.getfield 90, 3) := by decide +kernel
theorem dX8_setChamber_59 : decode cX8_setChamber 59 = .ok (.istore 5, 2) := by decide +kernel
theorem dX8_setChamber_61 : decode cX8_setChamber 61 = .ok (.aload_n 0, 1) := by decide +kernel
theorem dX8_setChamber_62 : decode cX8_setChamber 62 = .ok (.getfield 10, 3) := by decide +kernel
theorem dX8_setChamber_65 : decode cX8_setChamber 65 = .ok (.iload 5, 2) := by decide +kernel
theorem dX8_setChamber_67 : decode cX8_setChamber 67 = .ok (.invokevirtual 95, 3) := by decide +kernel
theorem dX8_setChamber_70 : decode cX8_setChamber 70 = .ok (.aload 4, 2) := by decide +kernel
theorem dX8_setChamber_72 : decode cX8_setChamber 72 = .ok (.getfield 86, 3) := by decide +kernel
theorem dX8_setChamber_75 : decode cX8_setChamber 75 = .ok (.iload_n 2, 1) := by decide +kernel
theorem dX8_setChamber_76 : decode cX8_setChamber 76 = .ok (.iload_n 3, 1) := by decide +kernel
theorem dX8_setChamber_77 : decode cX8_setChamber 77 = .ok (.invokevirtual 99, 3) := by decide +kernel
theorem dX8_setChamber_80 : decode cX8_setChamber 80 = .ok (.iload 5, 2) := by decide +kernel
theorem dX8_setChamber_82 : decode cX8_setChamber 82 = .ok (.ireturn, 1) := by decide +kernel
theorem dX8_setInflow_0 : decode cX8_setInflow 0 = .ok (.iload_n 1, 1) := by decide +kernel
theorem dX8_setInflow_1 : decode cX8_setInflow 1 = .ok (.iconst 0, 1) := by decide +kernel
theorem dX8_setInflow_2 : decode cX8_setInflow 2 = .ok (.sipush 500, 3) := by decide +kernel
theorem dX8_setInflow_5 : decode cX8_setInflow 5 = .ok (.invokestatic 58, 3) := by decide +kernel
theorem dX8_setInflow_8 : decode cX8_setInflow 8 = .ok (.ifCond .eq 7, 3) := by decide +kernel
theorem dX8_setInflow_11 : decode cX8_setInflow 11 = .ok (.sipush (-1002), 3) := by decide +kernel
theorem dX8_setInflow_14 : decode cX8_setInflow 14 = .ok (.ireturn, 1) := by decide +kernel
theorem dX8_setInflow_15 : decode cX8_setInflow 15 = .ok (.aload_n 0, 1) := by decide +kernel
theorem dX8_setInflow_16 : decode cX8_setInflow 16 = .ok (.invokevirtual 69, 3) := by decide +kernel
theorem dX8_setInflow_19 : decode cX8_setInflow 19 = .ok (.aload_n 0, 1) := by decide +kernel
theorem dX8_setInflow_20 : decode cX8_setInflow 20 = .ok (.getfield 10, 3) := by decide +kernel
theorem dX8_setInflow_23 : decode cX8_setInflow 23 = .ok (.getfield 103, 3) := by decide +kernel
theorem dX8_setInflow_26 : decode cX8_setInflow 26 = .ok (.istore_n 2, 1) := by decide +kernel
theorem dX8_setInflow_27 : decode cX8_setInflow 27 = .ok (.aload_n 0, 1) := by decide +kernel
theorem dX8_setInflow_28 : decode cX8_setInflow 28 = .ok (.getfield 10, 3) := by decide +kernel
theorem dX8_setInflow_31 : decode cX8_setInflow 31 = .ok (.iload_n 1, 1) := by decide +kernel
theorem dX8_setInflow_32 : decode cX8_setInflow 32 = .ok (.putfield 103, 3) := by decide +kernel
theorem dX8_setInflow_35 : decode cX8_setInflow 35 = .ok (.iload_n 2, 1) := by decide +kernel
theorem dX8_setInflow_36 : decode cX8_setInflow 36 = .ok (.ireturn, 1) := by decide +kernel
theorem dX8_start_0 : decode cX8_start 0 = .ok (.aload_n 0, 1) := by decide +kernel
theorem dX8_start_1 : decode cX8_start 1 = .ok (.getfield 10, 3) := by decide +kernel
theorem dX8_start_4 : decode cX8_start 4 = .ok (.iload_n 1, 1) := by decide +kernel
theorem dX8_start_5 : decode cX8_start 5 = .ok (.invokevirtual 72, 3) := by decide +kernel
theorem dX8_start_8 : decode cX8_start 8 = .ok (.astore_n 2, 1) := by decide +kernel
theorem dX8_start_9 : decode cX8_start 9 = .ok (.aload_n 2, 1) := by decide +kernel
theorem dX8_start_10 : decode cX8_start 10 = .ok (.ifnonnull 7, 3) := by decide +kernel
theorem dX8_start_13 : decode cX8_start 13 = .ok (.sipush (-1001), 3) := by decide +kernel
theorem dX8_start_16 : decode cX8_start 16 = .ok (.ireturn, 1) := by decide +kernel
theorem dX8_start_17 : decode cX8_start 17 = .ok (.aload_n 2, 1) := by decide +kernel
theorem dX8_start_18 : decode cX8_start 18 = .ok (.getfield 76, 3) := by decide +kernel
theorem dX8_start_21 : decode cX8_start 21 = .ok (.ifCond .eq 7, 3) := by decide +kernel
theorem dX8_start_24 : decode cX8_start 24 = .ok (.sipush (-1003), 3) := by decide +kernel
theorem dX8_start_27 : decode cX8_start 27 = .ok (.ireturn, 1) := by decide +kernel
theorem dX8_start_28 : decode cX8_start 28 = .ok (.aload_n 0, 1) := by decide +kernel
theorem dX8_start_29 : decode cX8_start 29 = .ok (.invokevirtual 69, 3) := by decide +kernel
theorem dX8_start_32 : decode cX8_start 32 = .ok (.aload_n 2, 1) := by decide +kernel
theorem dX8_start_33 : decode cX8_start 33 = .ok (.iconst 1, 1) := by decide +kernel
theorem dX8_start_34 : decode cX8_start 34 = .ok (.putfield 76, 3) := by decide +kernel
theorem dX8_start_37 : decode cX8_start 37 = .ok (.aload_n 2, 1) := by decide +kernel
theorem dX8_start_38 : decode cX8_start 38 = .ok (.aload_n 0, 1) := by decide +kernel
theorem dX8_start_39 : decode cX8_start 39 = .ok (.getfield 10, 3) := by decide +kernel
theorem dX8_start_42 : decode cX8_start 42 = .ok (.getfield 106, 3) := by decide +kernel
theorem dX8_start_45 : decode cX8_start 45 = .ok (.putfield 109, 3) := by decide +kernel
theorem dX8_start_48 : decode cX8_start 48 = .ok (.aload_n 0, 1) := by decide +kernel
theorem dX8_start_49 : decode cX8_start 49 = .ok (.getfield 10, 3) := by decide +kernel
theorem dX8_start_52 : decode cX8_start 52 = .ok (.invokevirtual 112, 3) := by decide +kernel
theorem dX8_start_55 : decode cX8_start 55 = .ok (.ireturn, 1) := by decide +kernel
theorem dX8_stop_0 : decode cX8_stop 0 = .ok (.aload_n 0, 1) := by decide +kernel
theorem dX8_stop_1 : decode cX8_stop 1 = .ok (.getfield 10, 3) := by decide +kernel
theorem dX8_stop_4 : decode cX8_stop 4 = .ok (.iload_n 1, 1) := by decide +kernel
theorem dX8_stop_5 : decode cX8_stop 5 = .ok (.invokevirtual 72, 3) := by decide +kernel
theorem dX8_stop_8 : decode cX8_stop 8 = .ok (.astore_n 2, 1) := by decide +kernel
theorem dX8_stop_9 : decode cX8_stop 9 = .ok (.aload_n 2, 1) := by decide +kernel
theorem dX8_stop_10 : decode cX8_stop 10 = .ok (.ifnonnull 7, 3) := by decide +kernel
theorem dX8_stop_13 : decode cX8_stop 13 = .ok (.sipush (-1001), 3) := by decide +kernel
theorem dX8_stop_16 : decode cX8_stop 16 = .ok (.ireturn, 1) := by decide +kernel
theorem dX8_stop_17 : decode cX8_stop 17 = .ok (.aload_n 2, 1) := by decide +kernel
theorem dX8_stop_18 : decode cX8_stop 18 = .ok (.getfield 76, 3) := by decide +kernel
theorem dX8_stop_21 : decode cX8_stop 21 = .ok (.ifCond .ne 7, 3) := by decide +kernel
theorem dX8_stop_24 : decode cX8_stop 24 = .ok (.sipush (-1003), 3) := by decide +kernel
theorem dX8_stop_27 : decode cX8_stop 27 = .ok (.ireturn, 1) := by decide +kernel
theorem dX8_stop_28 : decode cX8_stop 28 = .ok (.aload_n 0, 1) := by decide +kernel
theorem dX8_stop_29 : decode cX8_stop 29 = .ok (.invokevirtual 69, 3) := by decide +kernel
theorem dX8_stop_32 : decode cX8_stop 32 = .ok (.aload_n 2, 1) := by decide +kernel
theorem dX8_stop_33 : decode cX8_stop 33 = .ok (.iconst 0, 1) := by decide +kernel
theorem dX8_stop_34 : decode cX8_stop 34 = .ok (.putfield 76, 3) := by decide +kernel
theorem dX8_stop_37 : decode cX8_stop 37 = .ok (.aload_n 2, 1) := by decide +kernel
theorem dX8_stop_38 : decode cX8_stop 38 = .ok (.invokevirtual 116, 3) := by decide +kernel
theorem dX8_stop_41 : decode cX8_stop 41 = .ok (.aload_n 0, 1) := by decide +kernel
theorem dX8_stop_42 : decode cX8_stop 42 = .ok (.getfield 10, 3) := by decide +kernel
theorem dX8_stop_45 : decode cX8_stop 45 = .ok (.invokevirtual 112, 3) := by decide +kernel
theorem dX8_stop_48 : decode cX8_stop 48 = .ok (.ireturn, 1) := by decide +kernel
theorem dX8_emptyTank_0 : decode cX8_emptyTank 0 = .ok (.aload_n 0, 1) := by decide +kernel
theorem dX8_emptyTank_1 : decode cX8_emptyTank 1 = .ok (.getfield 10, 3) := by decide +kernel
theorem dX8_emptyTank_4 : decode cX8_emptyTank 4 = .ok (.iload_n 1, 1) := by decide +kernel
theorem dX8_emptyTank_5 : decode cX8_emptyTank 5 = .ok (.invokevirtual 72, 3) := by decide +kernel
theorem dX8_emptyTank_8 : decode cX8_emptyTank 8 = .ok (.astore_n 2, 1) := by decide +kernel
theorem dX8_emptyTank_9 : decode cX8_emptyTank 9 = .ok (.aload_n 2, 1) := by decide +kernel
theorem dX8_emptyTank_10 : decode cX8_emptyTank 10 = .ok (.ifnonnull 7, 3) := by decide +kernel
theorem dX8_emptyTank_13 : decode cX8_emptyTank 13 = .ok (.sipush (-1001), 3) := by decide +kernel
theorem dX8_emptyTank_16 : decode cX8_emptyTank 16 = .ok (.ireturn, 1) := by decide +kernel
theorem dX8_emptyTank_17 : decode cX8_emptyTank 17 = .ok (.aload_n 2, 1) := by decide +kernel
theorem dX8_emptyTank_18 : decode cX8_emptyTank 18 = .ok (.getfield 119, 3) := by decide +kernel
theorem dX8_emptyTank_21 : decode cX8_emptyTank 21 = .ok (.ifCond .ne 7, 3) := by decide +kernel
theorem dX8_emptyTank_24 : decode cX8_emptyTank 24 = .ok (.sipush (-1003), 3) := by decide +kernel
theorem dX8_emptyTank_27 : decode cX8_emptyTank 27 = .ok (.ireturn, 1) := by decide +kernel
theorem dX8_emptyTank_28 : decode cX8_emptyTank 28 = .ok (.aload_n 0, 1) := by decide +kernel
theorem dX8_emptyTank_29 : decode cX8_emptyTank 29 = .ok (.invokevirtual 69, 3) := by decide +kernel
theorem dX8_emptyTank_32 : decode cX8_emptyTank 32 = .ok (.aload_n 2, 1) := by decide +kernel
theorem dX8_emptyTank_33 : decode cX8_emptyTank 33 = .ok (.getfield 119, 3) := by decide +kernel
theorem dX8_emptyTank_36 : decode cX8_emptyTank 36 = .ok (.istore_n 3, 1) := by decide +kernel
theorem dX8_emptyTank_37 : decode cX8_emptyTank 37 = .ok (.aload_n 2, 1) := by decide +kernel
theorem dX8_emptyTank_38 : decode cX8_emptyTank 38 = .ok (.iconst 0, 1) := by decide +kernel
theorem dX8_emptyTank_39 : decode cX8_emptyTank 39 = .ok (.putfield 119, 3) := by decide +kernel
theorem dX8_emptyTank_42 : decode cX8_emptyTank 42 = .ok (.iload_n 3, 1) := by decide +kernel
theorem dX8_emptyTank_43 : decode cX8_emptyTank 43 = .ok (.ireturn, 1) := by decide +kernel
theorem dX8_pass_0 : decode cX8_pass 0 = .ok (.iload_n 1, 1) := by decide +kernel
theorem dX8_pass_1 : decode cX8_pass 1 = .ok (.iconst 1, 1) := by decide +kernel
theorem dX8_pass_2 : decode cX8_pass 2 = .ok (.sipush 200, 3) := by decide +kernel
theorem dX8_pass_5 : decode cX8_pass 5 = .ok (.invokestatic 58, 3) := by decide +kernel
theorem dX8_pass_8 : decode cX8_pass 8 = .ok (.ifCond .eq 7, 3) := by decide +kernel
theorem dX8_pass_11 : decode cX8_pass 11 = .ok (.sipush (-1002), 3) := by decide +kernel
theorem dX8_pass_14 : decode cX8_pass 14 = .ok (.ireturn, 1) := by decide +kernel
theorem dX8_pass_15 : decode cX8_pass 15 = .ok (.aload_n 0, 1) := by decide +kernel
theorem dX8_pass_16 : decode cX8_pass 16 = .ok (.getfield 10, 3) := by decide +kernel
theorem dX8_pass_19 : decode cX8_pass 19 = .ok (.getfield 106, 3) := by decide +kernel
theorem dX8_pass_22 : decode cX8_pass 22 = .ok (.iload_n 1, 1) := by decide +kernel
theorem dX8_pass_23 : decode cX8_pass 23 = .ok (.iadd, 1) := by decide +kernel
theorem dX8_pass_24 : decode cX8_pass 24 = .ok (.sipush 20000, 3) := by decide +kernel
theorem dX8_pass_27 : decode cX8_pass 27 = .ok (.if_icmp .le 7, 3) := by decide +kernel
theorem dX8_pass_30 : decode cX8_pass 30 = .ok (.sipush (-1003), 3) := by decide +kernel
theorem dX8_pass_33 : decode cX8_pass 33 = .ok (.ireturn, 1) := by decide +kernel
theorem dX8_pass_34 : decode cX8_pass 34 = .ok (.aload_n 0, 1) := by decide +kernel
theorem dX8_pass_35 : decode cX8_pass 35 = .ok (.invokevirtual 69, 3) := by decide +kernel
theorem dX8_pass_38 : decode cX8_pass 38 = .ok (.iconst 0, 1) := by decide +kernel
theorem dX8_pass_39 : decode cX8_pass 39 = .ok (.istore_n 2, 1) := by decide +kernel
theorem dX8_pass_40 : decode cX8_pass 40 = .ok (.iconst 0, 1) := by decide +kernel
theorem dX8_pass_41 : decode cX8_pass 41 = .ok (.istore_n 3, 1) := by decide +kernel
theorem dX8_pass_42 : decode cX8_pass 42 = .ok (.iload_n 3, 1) := by decide +kernel
theorem dX8_pass_43 : decode cX8_pass 43 = .ok (.iload_n 1, 1) := by decide +kernel
theorem dX8_pass_44 : decode cX8_pass 44 = .ok (.if_icmp .ge 16, 3) := by decide +kernel
theorem dX8_pass_47 : decode cX8_pass 47 = .ok (.iload_n 2, 1) := by decide +kernel
theorem dX8_pass_48 : decode cX8_pass 48 = .ok (.aload_n 0, 1) := by decide +kernel
theorem dX8_pass_49 : decode cX8_pass 49 = .ok (.invokevirtual 122, 3) := by decide +kernel
theorem dX8_pass_52 : decode cX8_pass 52 = .ok (.iadd, 1) := by decide +kernel
theorem dX8_pass_53 : decode cX8_pass 53 = .ok (.istore_n 2, 1) := by decide +kernel
theorem dX8_pass_54 : decode cX8_pass 54 = .ok (.iinc 3 1, 3) := by decide +kernel
theorem dX8_pass_57 : decode cX8_pass 57 = .ok (.goto (-15), 3) := by decide +kernel
theorem dX8_pass_60 : decode cX8_pass 60 = .ok (.iload_n 2, 1) := by decide +kernel
theorem dX8_pass_61 : decode cX8_pass 61 = .ok (.ireturn, 1) := by decide +kernel
theorem dX8_undo_0 : decode cX8_undo 0 = .ok (.aload_n 0, 1) := by decide +kernel
theorem dX8_undo_1 : decode cX8_undo 1 = .ok (.getfield 125, 3) := by decide +kernel
theorem dX8_undo_4 : decode cX8_undo 4 = .ok (.iconst 1, 1) := by decide +kernel
theorem dX8_undo_5 : decode cX8_undo 5 = .ok (.if_icmp .ge 7, 3) := by decide +kernel
theorem dX8_undo_8 : decode cX8_undo 8 = .ok (.sipush (-1005), 3) := by decide +kernel
theorem dX8_undo_11 : decode cX8_undo 11 = .ok (.ireturn, 1) := by decide +kernel
theorem dX8_undo_12 : decode cX8_undo 12 = .ok (.aload_n 0, 1) := by decide +kernel
theorem dX8_undo_13 : decode cX8_undo 13 = .ok (.getfield 128, 3) := by decide +kernel
theorem dX8_undo_16 : decode cX8_undo 16 = .ok (.iconst 1, 1) := by decide +kernel
theorem dX8_undo_17 : decode cX8_undo 17 = .ok (.aload_n 0, 1) := by decide +kernel
theorem dX8_undo_18 : decode cX8_undo 18 = .ok (.getfield 16, 3) := by decide +kernel
theorem dX8_undo_21 : decode cX8_undo 21 = .ok (.arraylength, 1) := by decide +kernel
theorem dX8_undo_22 : decode cX8_undo 22 = .ok (.invokestatic 58, 3) := by decide +kernel
theorem dX8_undo_25 : decode cX8_undo 25 = .ok (.ifCond .eq 12, 3) := by decide +kernel
theorem dX8_undo_28 : decode cX8_undo 28 = .ok (.aload_n 0, 1) := by decide +kernel
theorem dX8_undo_29 : decode cX8_undo 29 = .ok (.aload_n 0, 1) := by decide +kernel
theorem dX8_undo_30 : decode cX8_undo 30 = .ok (.getfield 16, 3) := by decide +kernel
theorem dX8_undo_33 : decode cX8_undo 33 = .ok (.arraylength, 1) := by decide +kernel
theorem dX8_undo_34 : decode cX8_undo 34 = .ok (.putfield 128, 3) := by decide +kernel
theorem dX8_undo_37 : decode cX8_undo 37 = .ok (.aload_n 0, 1) := by decide +kernel
theorem dX8_undo_38 : decode cX8_undo 38 = .ok (.dup, 1) := by decide +kernel
theorem dX8_undo_39 : decode cX8_undo 39 = .ok (.getfield 128, 3) := by decide +kernel
theorem dX8_undo_42 : decode cX8_undo 42 = .ok (.iconst 1, 1) := by decide +kernel
theorem dX8_undo_43 : decode cX8_undo 43 = .ok (.isub, 1) := by decide +kernel
theorem dX8_undo_44 : decode cX8_undo 44 = .ok (.putfield 128, 3) := by decide +kernel
theorem dX8_undo_47 : decode cX8_undo 47 = .ok (.aload_n 0, 1) := by decide +kernel
theorem dX8_undo_48 : decode cX8_undo 48 = .ok (.dup, 1) := by decide +kernel
theorem dX8_undo_49 : decode cX8_undo 49 = .ok (.getfield 125, 3) := by decide +kernel
theorem dX8_undo_52 : decode cX8_undo 52 = .ok (.iconst 1, 1) := by decide +kernel
theorem dX8_undo_53 : decode cX8_undo 53 = .ok (.isub, 1) := by decide +kernel
theorem dX8_undo_54 : decode cX8_undo 54 = .ok (.putfield 125, 3) := by decide +kernel
theorem dX8_undo_57 : decode cX8_undo 57 = .ok (.aload_n 0, 1) := by decide +kernel
theorem dX8_undo_58 : decode cX8_undo 58 = .ok (.getfield 10, 3) := by decide +kernel
theorem dX8_undo_61 : decode cX8_undo 61 = .ok (.aload_n 0, 1) := by decide +kernel
theorem dX8_undo_62 : decode cX8_undo 62 = .ok (.getfield 16, 3) := by decide +kernel
theorem dX8_undo_65 : decode cX8_undo 65 = .ok (.aload_n 0, 1) := by decide +kernel
theorem dX8_undo_66 : decode cX8_undo 66 = .ok (.getfield 128, 3) := by decide +kernel
theorem dX8_undo_69 : decode cX8_undo 69 = .ok (.aaload, 1) := by decide +kernel
theorem dX8_undo_70 : decode cX8_undo 70 = .ok (.invokevirtual 131, 3) := by decide +kernel
theorem dX8_undo_73 : decode cX8_undo 73 = .ok (.aload_n 0, 1) := by decide +kernel
theorem dX8_undo_74 : decode cX8_undo 74 = .ok (.getfield 125, 3) := by decide +kernel
theorem dX8_undo_77 : decode cX8_undo 77 = .ok (.ireturn, 1) := by decide +kernel
theorem dX8_type_0 : decode cX8_type 0 = .ok (.iload_n 1, 1) := by decide +kernel
theorem dX8_type_1 : decode cX8_type 1 = .ok (.bipush 33, 2) := by decide +kernel
theorem dX8_type_3 : decode cX8_type 3 = .ok (.bipush 126, 2) := by decide +kernel
theorem dX8_type_5 : decode cX8_type 5 = .ok (.invokestatic 58, 3) := by decide +kernel
theorem dX8_type_8 : decode cX8_type 8 = .ok (.ifCond .eq 7, 3) := by decide +kernel
theorem dX8_type_11 : decode cX8_type 11 = .ok (.sipush (-1002), 3) := by decide +kernel
theorem dX8_type_14 : decode cX8_type 14 = .ok (.ireturn, 1) := by decide +kernel
theorem dX8_type_15 : decode cX8_type 15 = .ok (.aload_n 0, 1) := by decide +kernel
theorem dX8_type_16 : decode cX8_type 16 = .ok (.getfield 27, 3) := by decide +kernel
theorem dX8_type_19 : decode cX8_type 19 = .ok (.getfield 135, 3) := by decide +kernel
theorem dX8_type_22 : decode cX8_type 22 = .ok (.iconst 0, 1) := by decide +kernel
theorem dX8_type_23 : decode cX8_type 23 = .ok (.aload_n 0, 1) := by decide +kernel
theorem dX8_type_24 : decode cX8_type 24 = .ok (.getfield 27, 3) := by decide +kernel
theorem dX8_type_27 : decode cX8_type 27 = .ok (.getfield 138, 3) := by decide +kernel
theorem dX8_type_30 : decode cX8_type 30 = .ok (.arraylength, 1) := by decide +kernel
theorem dX8_type_31 : decode cX8_type 31 = .ok (.iconst 1, 1) := by decide +kernel
theorem dX8_type_32 : decode cX8_type 32 = .ok (.isub, 1) := by decide +kernel
theorem dX8_type_33 : decode cX8_type 33 = .ok (.invokestatic 58, 3) := by decide +kernel
theorem dX8_type_36 : decode cX8_type 36 = .ok (.ifCond .eq 7, 3) := by decide +kernel
theorem dX8_type_39 : decode cX8_type 39 = .ok (.sipush (-1004), 3) := by decide +kernel
theorem dX8_type_42 : decode cX8_type 42 = .ok (.ireturn, 1) := by decide +kernel
theorem dX8_type_43 : decode cX8_type 43 = .ok (.aload_n 0, 1) := by decide +kernel
theorem dX8_type_44 : decode cX8_type 44 = .ok (.getfield 27, 3) := by decide +kernel
theorem dX8_type_47 : decode cX8_type 47 = .ok (.getfield 138, 3) := by decide +kernel
theorem dX8_type_50 : decode cX8_type 50 = .ok (.aload_n 0, 1) := by decide +kernel
theorem dX8_type_51 : decode cX8_type 51 = .ok (.getfield 27, 3) := by decide +kernel
theorem dX8_type_54 : decode cX8_type 54 = .ok (.getfield 135, 3) := by decide +kernel
theorem dX8_type_57 : decode cX8_type 57 = .ok (.iload_n 1, 1) := by decide +kernel
theorem dX8_type_58 : decode cX8_type 58 = .ok (.i2c, 1) := by decide +kernel
theorem dX8_type_59 : decode cX8_type 59 = .ok (.castore, 1) := by decide +kernel
theorem dX8_type_60 : decode cX8_type 60 = .ok (.aload_n 0, 1) := by decide +kernel
theorem dX8_type_61 : decode cX8_type 61 = .ok (.getfield 27, 3) := by decide +kernel
theorem dX8_type_64 : decode cX8_type 64 = .ok (.dup, 1) := by decide +kernel
theorem dX8_type_65 : decode cX8_type 65 = .ok (.getfield 135, 3) := by decide +kernel
theorem dX8_type_68 : decode cX8_type 68 = .ok (.iconst 1, 1) := by decide +kernel
theorem dX8_type_69 : decode cX8_type 69 = .ok (.iadd, 1) := by decide +kernel
theorem dX8_type_70 : decode cX8_type 70 = .ok (.putfield 135, 3) := by decide +kernel
theorem dX8_type_73 : decode cX8_type 73 = .ok (.aload_n 0, 1) := by decide +kernel
theorem dX8_type_74 : decode cX8_type 74 = .ok (.getfield 27, 3) := by decide +kernel
theorem dX8_type_77 : decode cX8_type 77 = .ok (.getfield 135, 3) := by decide +kernel
theorem dX8_type_80 : decode cX8_type 80 = .ok (.ireturn, 1) := by decide +kernel
theorem dX8_clearText_0 : decode cX8_clearText 0 = .ok (.aload_n 0, 1) := by decide +kernel
theorem dX8_clearText_1 : decode cX8_clearText 1 = .ok (.getfield 27, 3) := by decide +kernel
theorem dX8_clearText_4 : decode cX8_clearText 4 = .ok (.getfield 135, 3) := by decide +kernel
theorem dX8_clearText_7 : decode cX8_clearText 7 = .ok (.istore_n 1, 1) := by decide +kernel
theorem dX8_clearText_8 : decode cX8_clearText 8 = .ok (.aload_n 0, 1) := by decide +kernel
theorem dX8_clearText_9 : decode cX8_clearText 9 = .ok (.getfield 27, 3) := by decide +kernel
theorem dX8_clearText_12 : decode cX8_clearText 12 = .ok (.iconst 0, 1) := by decide +kernel
theorem dX8_clearText_13 : decode cX8_clearText 13 = .ok (.putfield 135, 3) := by decide +kernel
theorem dX8_clearText_16 : decode cX8_clearText 16 = .ok (.iload_n 1, 1) := by decide +kernel
theorem dX8_clearText_17 : decode cX8_clearText 17 = .ok (.ireturn, 1) := by decide +kernel
theorem dX8_syntaxError_0 : decode cX8_syntaxError 0 = .ok (.aload_n 0, 1) := by decide +kernel
theorem dX8_syntaxError_1 : decode cX8_syntaxError 1 = .ok (.getfield 27, 3) := by decide +kernel
theorem dX8_syntaxError_4 : decode cX8_syntaxError 4 = .ok (.invokevirtual 142, 3) := by decide +kernel
theorem dX8_syntaxError_7 : decode cX8_syntaxError 7 = .ok (.ireturn, 1) := by decide +kernel
theorem dX8_execute_0 : decode cX8_execute 0 = .ok (.aload_n 0, 1) := by decide +kernel
theorem dX8_execute_1 : decode cX8_execute 1 = .ok (.getfield 27, 3) := by decide +kernel
theorem dX8_execute_4 : decode cX8_execute 4 = .ok (.invokevirtual 142, 3) := by decide +kernel
theorem dX8_execute_7 : decode cX8_execute 7 = .ok (.istore_n 1, 1) := by decide +kernel
theorem dX8_execute_8 : decode cX8_execute 8 = .ok (.iload_n 1, 1) := by decide +kernel
theorem dX8_execute_9 : decode cX8_execute 9 = .ok (.sipush (-1005), 3) := by decide +kernel
theorem dX8_execute_12 : decode cX8_execute 12 = .ok (.if_icmp .eq 9, 3) := by decide +kernel
theorem dX8_execute_15 : decode cX8_execute 15 = .ok (.sipush (-2000), 3) := by decide +kernel
theorem dX8_execute_18 : decode cX8_execute 18 = .ok (.iload_n 1, 1) := by decide +kernel
theorem dX8_execute_19 : decode cX8_execute 19 = .ok (.isub, 1) := by decide +kernel
theorem dX8_execute_20 : decode cX8_execute 20 = .ok (.ireturn, 1) := by decide +kernel
theorem dX8_execute_21 : decode cX8_execute 21 = .ok (.aload_n 0, 1) := by decide +kernel
theorem dX8_execute_22 : decode cX8_execute 22 = .ok (.invokevirtual 69, 3) := by decide +kernel
theorem dX8_execute_25 : decode cX8_execute 25 = .ok (.aload_n 0, 1) := by decide +kernel
theorem dX8_execute_26 : decode cX8_execute 26 = .ok (.iconst 1, 1) := by decide +kernel
theorem dX8_execute_27 : decode cX8_execute 27 = .ok (.putfield 145, 3) := by decide +kernel
theorem dX8_execute_30 : decode cX8_execute 30 = .ok (.aload_n 0, 1) := by decide +kernel
theorem dX8_execute_31 : decode cX8_execute 31 = .ok (.iconst 0, 1) := by decide +kernel
theorem dX8_execute_32 : decode cX8_execute 32 = .ok (.putfield 20, 3) := by decide +kernel
theorem dX8_execute_35 : decode cX8_execute 35 = .ok (.iconst 0, 1) := by decide +kernel
theorem dX8_execute_36 : decode cX8_execute 36 = .ok (.istore_n 2, 1) := by decide +kernel
theorem dX8_execute_37 : decode cX8_execute 37 = .ok (.iconst 0, 1) := by decide +kernel
theorem dX8_execute_38 : decode cX8_execute 38 = .ok (.istore_n 3, 1) := by decide +kernel
theorem dX8_execute_39 : decode cX8_execute 39 = .ok (.iload_n 3, 1) := by decide +kernel
theorem dX8_execute_40 : decode cX8_execute 40 = .ok (.aload_n 0, 1) := by decide +kernel
theorem dX8_execute_41 : decode cX8_execute 41 = .ok (.getfield 27, 3) := by decide +kernel
theorem dX8_execute_44 : decode cX8_execute 44 = .ok (.getfield 135, 3) := by decide +kernel
theorem dX8_execute_47 : decode cX8_execute 47 = .ok (.if_icmp .ge 51, 3) := by decide +kernel
theorem dX8_execute_50 : decode cX8_execute 50 = .ok (.aload_n 0, 1) := by decide +kernel
theorem dX8_execute_51 : decode cX8_execute 51 = .ok (.getfield 20, 3) := by decide +kernel
theorem dX8_execute_54 : decode cX8_execute 54 = .ok (.ifCond .ne 44, 3) := by decide +kernel
theorem dX8_execute_57 : decode cX8_execute 57 = .ok (.aload_n 0, 1) := by decide +kernel
theorem dX8_execute_58 : decode cX8_execute 58 = .ok (.getfield 27, 3) := by decide +kernel
theorem dX8_execute_61 : decode cX8_execute 61 = .ok (.iload_n 3, 1) := by decide +kernel
theorem dX8_execute_62 : decode cX8_execute 62 = .ok (.invokevirtual 148, 3) := by decide +kernel
theorem dX8_execute_65 : decode cX8_execute 65 = .ok (.ifCond .eq 27, 3) := by decide +kernel
theorem dX8_execute_68 : decode cX8_execute 68 = .ok (.aload_n 0, 1) := by decide +kernel
theorem dX8_execute_69 : decode cX8_execute 69 = .ok (.iload_n 3, 1) := by decide +kernel
theorem dX8_execute_70 : decode cX8_execute 70 = .ok (.invokevirtual 152, 3) := by decide +kernel
theorem dX8_execute_73 : decode cX8_execute 73 = .ok (.istore 4, 2) := by decide +kernel
theorem dX8_execute_75 : decode cX8_execute 75 = .ok (.iload 4, 2) := by decide +kernel
theorem dX8_execute_77 : decode cX8_execute 77 = .ok (.ifCond .ge 12, 3) := by decide +kernel
theorem dX8_execute_80 : decode cX8_execute 80 = .ok (.aload_n 0, 1) := by decide +kernel
theorem dX8_execute_81 : decode cX8_execute 81 = .ok (.iload 4, 2) := by decide +kernel
theorem dX8_execute_83 : decode cX8_execute 83 = .ok (.putfield 20, 3) := by decide +kernel
theorem dX8_execute_86 : decode cX8_execute 86 = .ok (.goto 6, 3) := by decide +kernel
theorem dX8_execute_89 : decode cX8_execute 89 = .ok (.iinc 2 1, 3) := by decide +kernel
theorem dX8_execute_92 : decode cX8_execute 92 = .ok (.iinc 3 1, 3) := by decide +kernel
theorem dX8_execute_95 : decode cX8_execute 95 = .ok (.goto (-56), 3) := by decide +kernel
theorem dX8_execute_98 : decode cX8_execute 98 = .ok (.aload_n 0, 1) := by decide +kernel
theorem dX8_execute_99 : decode cX8_execute 99 = .ok (.iconst 0, 1) := by decide +kernel
theorem dX8_execute_100 : decode cX8_execute 100 = .ok (.putfield 145, 3) := by decide +kernel
theorem dX8_execute_103 : decode cX8_execute 103 = .ok (.iload_n 2, 1) := by decide +kernel
theorem dX8_execute_104 : decode cX8_execute 104 = .ok (.ireturn, 1) := by decide +kernel
theorem dX8_failure_0 : decode cX8_failure 0 = .ok (.aload_n 0, 1) := by decide +kernel
theorem dX8_failure_1 : decode cX8_failure 1 = .ok (.getfield 20, 3) := by decide +kernel
theorem dX8_failure_4 : decode cX8_failure 4 = .ok (.ireturn, 1) := by decide +kernel
theorem dX8_time_0 : decode cX8_time 0 = .ok (.aload_n 0, 1) := by decide +kernel
theorem dX8_time_1 : decode cX8_time 1 = .ok (.getfield 10, 3) := by decide +kernel
theorem dX8_time_4 : decode cX8_time 4 = .ok (.getfield 106, 3) := by decide +kernel
theorem dX8_time_7 : decode cX8_time 7 = .ok (.ireturn, 1) := by decide +kernel
theorem dX8_basin_0 : decode cX8_basin 0 = .ok (.aload_n 0, 1) := by decide +kernel
theorem dX8_basin_1 : decode cX8_basin 1 = .ok (.getfield 10, 3) := by decide +kernel
theorem dX8_basin_4 : decode cX8_basin 4 = .ok (.getfield 156, 3) := by decide +kernel
theorem dX8_basin_7 : decode cX8_basin 7 = .ok (.ireturn, 1) := by decide +kernel
theorem dX8_spilled_0 : decode cX8_spilled 0 = .ok (.aload_n 0, 1) := by decide +kernel
theorem dX8_spilled_1 : decode cX8_spilled 1 = .ok (.getfield 10, 3) := by decide +kernel
theorem dX8_spilled_4 : decode cX8_spilled 4 = .ok (.getfield 159, 3) := by decide +kernel
theorem dX8_spilled_7 : decode cX8_spilled 7 = .ok (.ireturn, 1) := by decide +kernel
theorem dX8_pumps_0 : decode cX8_pumps 0 = .ok (.aload_n 0, 1) := by decide +kernel
theorem dX8_pumps_1 : decode cX8_pumps 1 = .ok (.getfield 10, 3) := by decide +kernel
theorem dX8_pumps_4 : decode cX8_pumps 4 = .ok (.getfield 62, 3) := by decide +kernel
theorem dX8_pumps_7 : decode cX8_pumps 7 = .ok (.ireturn, 1) := by decide +kernel
theorem dX8_incidents_0 : decode cX8_incidents 0 = .ok (.aload_n 0, 1) := by decide +kernel
theorem dX8_incidents_1 : decode cX8_incidents 1 = .ok (.getfield 34, 3) := by decide +kernel
theorem dX8_incidents_4 : decode cX8_incidents 4 = .ok (.getfield 162, 3) := by decide +kernel
theorem dX8_incidents_7 : decode cX8_incidents 7 = .ok (.ireturn, 1) := by decide +kernel
theorem dX8_incidentKind_0 : decode cX8_incidentKind 0 = .ok (.iload_n 1, 1) := by decide +kernel
theorem dX8_incidentKind_1 : decode cX8_incidentKind 1 = .ok (.ifCond .ge 9, 3) := by decide +kernel
theorem dX8_incidentKind_4 : decode cX8_incidentKind 4 = .ok (.sipush (-1002), 3) := by decide +kernel
theorem dX8_incidentKind_7 : decode cX8_incidentKind 7 = .ok (.goto 14, 3) := by decide +kernel
theorem dX8_incidentKind_10 : decode cX8_incidentKind 10 = .ok (.aload_n 0, 1) := by decide +kernel
theorem dX8_incidentKind_11 : decode cX8_incidentKind 11 = .ok (.getfield 34, 3) := by decide +kernel
theorem dX8_incidentKind_14 : decode cX8_incidentKind 14 = .ok (.getfield 165, 3) := by decide +kernel
theorem dX8_incidentKind_17 : decode cX8_incidentKind 17 = .ok (.iload_n 1, 1) := by decide +kernel
theorem dX8_incidentKind_18 : decode cX8_incidentKind 18 = .ok (.invokevirtual 169, 3) := by decide +kernel
theorem dX8_incidentKind_21 : decode cX8_incidentKind 21 = .ok (.ireturn, 1) := by decide +kernel
theorem dX8_incidentPump_0 : decode cX8_incidentPump 0 = .ok (.iload_n 1, 1) := by decide +kernel
theorem dX8_incidentPump_1 : decode cX8_incidentPump 1 = .ok (.ifCond .ge 9, 3) := by decide +kernel
theorem dX8_incidentPump_4 : decode cX8_incidentPump 4 = .ok (.sipush (-1002), 3) := by decide +kernel
theorem dX8_incidentPump_7 : decode cX8_incidentPump 7 = .ok (.goto 14, 3) := by decide +kernel
theorem dX8_incidentPump_10 : decode cX8_incidentPump 10 = .ok (.aload_n 0, 1) := by decide +kernel
theorem dX8_incidentPump_11 : decode cX8_incidentPump 11 = .ok (.getfield 34, 3) := by decide +kernel
theorem dX8_incidentPump_14 : decode cX8_incidentPump 14 = .ok (.getfield 174, 3) := by decide +kernel
theorem dX8_incidentPump_17 : decode cX8_incidentPump 17 = .ok (.iload_n 1, 1) := by decide +kernel
theorem dX8_incidentPump_18 : decode cX8_incidentPump 18 = .ok (.invokevirtual 169, 3) := by decide +kernel
theorem dX8_incidentPump_21 : decode cX8_incidentPump 21 = .ok (.ireturn, 1) := by decide +kernel
theorem dX8_incidentTime_0 : decode cX8_incidentTime 0 = .ok (.iload_n 1, 1) := by decide +kernel
theorem dX8_incidentTime_1 : decode cX8_incidentTime 1 = .ok (.ifCond .ge 9, 3) := by decide +kernel
theorem dX8_incidentTime_4 : decode cX8_incidentTime 4 = .ok (.sipush (-1002), 3) := by decide +kernel
theorem dX8_incidentTime_7 : decode cX8_incidentTime 7 = .ok (.goto 14, 3) := by decide +kernel
theorem dX8_incidentTime_10 : decode cX8_incidentTime 10 = .ok (.aload_n 0, 1) := by decide +kernel
theorem dX8_incidentTime_11 : decode cX8_incidentTime 11 = .ok (.getfield 34, 3) := by decide +kernel
theorem dX8_incidentTime_14 : decode cX8_incidentTime 14 = .ok (.getfield 177, 3) := by decide +kernel
theorem dX8_incidentTime_17 : decode cX8_incidentTime 17 = .ok (.iload_n 1, 1) := by decide +kernel
theorem dX8_incidentTime_18 : decode cX8_incidentTime 18 = .ok (.invokevirtual 169, 3) := by decide +kernel
theorem dX8_incidentTime_21 : decode cX8_incidentTime 21 = .ok (.ireturn, 1) := by decide +kernel
theorem dX8_phase_0 : decode cX8_phase 0 = .ok (.aload_n 0, 1) := by decide +kernel
theorem dX8_phase_1 : decode cX8_phase 1 = .ok (.getfield 10, 3) := by decide +kernel
theorem dX8_phase_4 : decode cX8_phase 4 = .ok (.iload_n 1, 1) := by decide +kernel
theorem dX8_phase_5 : decode cX8_phase 5 = .ok (.invokevirtual 72, 3) := by decide +kernel
theorem dX8_phase_8 : decode cX8_phase 8 = .ok (.astore_n 2, 1) := by decide +kernel
theorem dX8_phase_9 : decode cX8_phase 9 = .ok (.aload_n 2, 1) := by decide +kernel
theorem dX8_phase_10 : decode cX8_phase 10 = .ok (.ifnonnull 7, 3) := by decide +kernel
theorem dX8_phase_13 : decode cX8_phase 13 = .ok (.sipush (-1001), 3) := by decide +kernel
theorem dX8_phase_16 : decode cX8_phase 16 = .ok (.ireturn, 1) := by decide +kernel
theorem dX8_phase_17 : decode cX8_phase 17 = .ok (.aload_n 2, 1) := by decide +kernel
theorem dX8_phase_18 : decode cX8_phase 18 = .ok (.getfield 76, 3) := by decide +kernel
theorem dX8_phase_21 : decode cX8_phase 21 = .ok (.ifCond .ne 5, 3) := by decide +kernel
theorem dX8_phase_24 : decode cX8_phase 24 = .ok (.iconst 0, 1) := by decide +kernel
theorem dX8_phase_25 : decode cX8_phase 25 = .ok (.ireturn, 1) := by decide +kernel
theorem dX8_phase_26 : decode cX8_phase 26 = .ok (.aload_n 2, 1) := by decide +kernel
theorem dX8_phase_27 : decode cX8_phase 27 = .ok (.getfield 180, 3) := by decide +kernel
theorem dX8_phase_30 : decode cX8_phase 30 = .ok (.ifCond .eq 7, 3) := by decide +kernel
theorem dX8_phase_33 : decode cX8_phase 33 = .ok (.iconst 2, 1) := by decide +kernel
theorem dX8_phase_34 : decode cX8_phase 34 = .ok (.goto 4, 3) := by decide +kernel
theorem dX8_phase_37 : decode cX8_phase 37 = .ok (.iconst 1, 1) := by decide +kernel
theorem dX8_phase_38 : decode cX8_phase 38 = .ok (.ireturn, 1) := by decide +kernel
theorem dX8_speed_0 : decode cX8_speed 0 = .ok (.aload_n 0, 1) := by decide +kernel
theorem dX8_speed_1 : decode cX8_speed 1 = .ok (.getfield 10, 3) := by decide +kernel
theorem dX8_speed_4 : decode cX8_speed 4 = .ok (.iload_n 1, 1) := by decide +kernel
theorem dX8_speed_5 : decode cX8_speed 5 = .ok (.invokevirtual 72, 3) := by decide +kernel
theorem dX8_speed_8 : decode cX8_speed 8 = .ok (.astore_n 2, 1) := by decide +kernel
theorem dX8_speed_9 : decode cX8_speed 9 = .ok (.aload_n 2, 1) := by decide +kernel
theorem dX8_speed_10 : decode cX8_speed 10 = .ok (.ifnonnull 9, 3) := by decide +kernel
theorem dX8_speed_13 : decode cX8_speed 13 = .ok (.sipush (-1001), 3) := by decide +kernel
theorem dX8_speed_16 : decode cX8_speed 16 = .ok (.goto 7, 3) := by decide +kernel
end
section
theorem dX8_speed_19 : decode cX8_speed 19 = .ok (.aload_n 2, 1) := by decide +kernel
theorem dX8_speed_20 : decode cX8_speed 20 = .ok (.getfield 183, 3) := by decide +kernel
theorem dX8_speed_23 : decode cX8_speed 23 = .ok (.ireturn, 1) := by decide +kernel
theorem dX8_openTicks_0 : decode cX8_openTicks 0 = .ok (.aload_n 0, 1) := by decide +kernel
theorem dX8_openTicks_1 : decode cX8_openTicks 1 = .ok (.getfield 10, 3) := by decide +kernel
theorem dX8_openTicks_4 : decode cX8_openTicks 4 = .ok (.iload_n 1, 1) := by decide +kernel
theorem dX8_openTicks_5 : decode cX8_openTicks 5 = .ok (.invokevirtual 72, 3) := by decide +kernel
theorem dX8_openTicks_8 : decode cX8_openTicks 8 = .ok (.astore_n 2, 1) := by decide +kernel
theorem dX8_openTicks_9 : decode cX8_openTicks 9 = .ok (.aload_n 2, 1) := by decide +kernel
theorem dX8_openTicks_10 : decode cX8_openTicks 10 = .ok (.ifnonnull 9, 3) := by decide +kernel
theorem dX8_openTicks_13 : decode cX8_openTicks 13 = .ok (.sipush (-1001), 3) := by decide +kernel
theorem dX8_openTicks_16 : decode cX8_openTicks 16 = .ok (.goto 7, 3) := by decide +kernel
theorem dX8_openTicks_19 : decode cX8_openTicks 19 = .ok (.aload_n 2, 1) := by decide +kernel
theorem dX8_openTicks_20 : decode cX8_openTicks 20 = .ok (.getfield 186, 3) := by decide +kernel
theorem dX8_openTicks_23 : decode cX8_openTicks 23 = .ok (.ireturn, 1) := by decide +kernel
theorem dX8_chamberWater_0 : decode cX8_chamberWater 0 = .ok (.aload_n 0, 1) := by decide +kernel
theorem dX8_chamberWater_1 : decode cX8_chamberWater 1 = .ok (.getfield 10, 3) := by decide +kernel
theorem dX8_chamberWater_4 : decode cX8_chamberWater 4 = .ok (.iload_n 1, 1) := by decide +kernel
theorem dX8_chamberWater_5 : decode cX8_chamberWater 5 = .ok (.invokevirtual 72, 3) := by decide +kernel
theorem dX8_chamberWater_8 : decode cX8_chamberWater 8 = .ok (.astore_n 2, 1) := by decide +kernel
theorem dX8_chamberWater_9 : decode cX8_chamberWater 9 = .ok (.aload_n 2, 1) := by decide +kernel
theorem dX8_chamberWater_10 : decode cX8_chamberWater 10 = .ok (.ifnonnull 9, 3) := by decide +kernel
theorem dX8_chamberWater_13 : decode cX8_chamberWater 13 = .ok (.sipush (-1001), 3) := by decide +kernel
theorem dX8_chamberWater_16 : decode cX8_chamberWater 16 = .ok (.goto 10, 3) := by decide +kernel
theorem dX8_chamberWater_19 : decode cX8_chamberWater 19 = .ok (.aload_n 2, 1) := by decide +kernel
theorem dX8_chamberWater_20 : decode cX8_chamberWater 20 = .ok (.getfield 86, 3) := by decide +kernel
theorem dX8_chamberWater_23 : decode cX8_chamberWater 23 = .ok (.getfield 90, 3) := by decide +kernel
theorem dX8_chamberWater_26 : decode cX8_chamberWater 26 = .ok (.ireturn, 1) := by decide +kernel
theorem dX8_air_0 : decode cX8_air 0 = .ok (.aload_n 0, 1) := by decide +kernel
theorem dX8_air_1 : decode cX8_air 1 = .ok (.getfield 10, 3) := by decide +kernel
theorem dX8_air_4 : decode cX8_air 4 = .ok (.iload_n 1, 1) := by decide +kernel
theorem dX8_air_5 : decode cX8_air 5 = .ok (.invokevirtual 72, 3) := by decide +kernel
theorem dX8_air_8 : decode cX8_air 8 = .ok (.astore_n 2, 1) := by decide +kernel
theorem dX8_air_9 : decode cX8_air 9 = .ok (.aload_n 2, 1) := by decide +kernel
theorem dX8_air_10 : decode cX8_air 10 = .ok (.ifnonnull 9, 3) := by decide +kernel
theorem dX8_air_13 : decode cX8_air 13 = .ok (.sipush (-1001), 3) := by decide +kernel
theorem dX8_air_16 : decode cX8_air 16 = .ok (.goto 10, 3) := by decide +kernel
theorem dX8_air_19 : decode cX8_air 19 = .ok (.aload_n 2, 1) := by decide +kernel
theorem dX8_air_20 : decode cX8_air 20 = .ok (.getfield 86, 3) := by decide +kernel
theorem dX8_air_23 : decode cX8_air 23 = .ok (.getfield 189, 3) := by decide +kernel
theorem dX8_air_26 : decode cX8_air 26 = .ok (.ireturn, 1) := by decide +kernel
theorem dX8_chamberHead_0 : decode cX8_chamberHead 0 = .ok (.aload_n 0, 1) := by decide +kernel
theorem dX8_chamberHead_1 : decode cX8_chamberHead 1 = .ok (.getfield 10, 3) := by decide +kernel
theorem dX8_chamberHead_4 : decode cX8_chamberHead 4 = .ok (.iload_n 1, 1) := by decide +kernel
theorem dX8_chamberHead_5 : decode cX8_chamberHead 5 = .ok (.invokevirtual 72, 3) := by decide +kernel
theorem dX8_chamberHead_8 : decode cX8_chamberHead 8 = .ok (.astore_n 2, 1) := by decide +kernel
theorem dX8_chamberHead_9 : decode cX8_chamberHead 9 = .ok (.aload_n 2, 1) := by decide +kernel
theorem dX8_chamberHead_10 : decode cX8_chamberHead 10 = .ok (.ifnonnull 9, 3) := by decide +kernel
theorem dX8_chamberHead_13 : decode cX8_chamberHead 13 = .ok (.sipush (-1001), 3) := by decide +kernel
theorem dX8_chamberHead_16 : decode cX8_chamberHead 16 = .ok (.goto 10, 3) := by decide +kernel
theorem dX8_chamberHead_19 : decode cX8_chamberHead 19 = .ok (.aload_n 2, 1) := by decide +kernel
theorem dX8_chamberHead_20 : decode cX8_chamberHead 20 = .ok (.getfield 86, 3) := by decide +kernel
theorem dX8_chamberHead_23 : decode cX8_chamberHead 23 = .ok (.invokevirtual 192, 3) := by decide +kernel
theorem dX8_chamberHead_26 : decode cX8_chamberHead 26 = .ok (.ireturn, 1) := by decide +kernel
theorem dX8_beats_0 : decode cX8_beats 0 = .ok (.aload_n 0, 1) := by decide +kernel
theorem dX8_beats_1 : decode cX8_beats 1 = .ok (.getfield 10, 3) := by decide +kernel
theorem dX8_beats_4 : decode cX8_beats 4 = .ok (.iload_n 1, 1) := by decide +kernel
theorem dX8_beats_5 : decode cX8_beats 5 = .ok (.invokevirtual 72, 3) := by decide +kernel
theorem dX8_beats_8 : decode cX8_beats 8 = .ok (.astore_n 2, 1) := by decide +kernel
theorem dX8_beats_9 : decode cX8_beats 9 = .ok (.aload_n 2, 1) := by decide +kernel
theorem dX8_beats_10 : decode cX8_beats 10 = .ok (.ifnonnull 9, 3) := by decide +kernel
theorem dX8_beats_13 : decode cX8_beats 13 = .ok (.sipush (-1001), 3) := by decide +kernel
theorem dX8_beats_16 : decode cX8_beats 16 = .ok (.goto 10, 3) := by decide +kernel
theorem dX8_beats_19 : decode cX8_beats 19 = .ok (.aload_n 2, 1) := by decide +kernel
theorem dX8_beats_20 : decode cX8_beats 20 = .ok (.getfield 195, 3) := by decide +kernel
theorem dX8_beats_23 : decode cX8_beats 23 = .ok (.getfield 199, 3) := by decide +kernel
theorem dX8_beats_26 : decode cX8_beats 26 = .ok (.ireturn, 1) := by decide +kernel
theorem dX8_wasted_0 : decode cX8_wasted 0 = .ok (.aload_n 0, 1) := by decide +kernel
theorem dX8_wasted_1 : decode cX8_wasted 1 = .ok (.getfield 10, 3) := by decide +kernel
theorem dX8_wasted_4 : decode cX8_wasted 4 = .ok (.iload_n 1, 1) := by decide +kernel
theorem dX8_wasted_5 : decode cX8_wasted 5 = .ok (.invokevirtual 72, 3) := by decide +kernel
theorem dX8_wasted_8 : decode cX8_wasted 8 = .ok (.astore_n 2, 1) := by decide +kernel
theorem dX8_wasted_9 : decode cX8_wasted 9 = .ok (.aload_n 2, 1) := by decide +kernel
theorem dX8_wasted_10 : decode cX8_wasted 10 = .ok (.ifnonnull 9, 3) := by decide +kernel
theorem dX8_wasted_13 : decode cX8_wasted 13 = .ok (.sipush (-1001), 3) := by decide +kernel
theorem dX8_wasted_16 : decode cX8_wasted 16 = .ok (.goto 10, 3) := by decide +kernel
theorem dX8_wasted_19 : decode cX8_wasted 19 = .ok (.aload_n 2, 1) := by decide +kernel
theorem dX8_wasted_20 : decode cX8_wasted 20 = .ok (.getfield 195, 3) := by decide +kernel
theorem dX8_wasted_23 : decode cX8_wasted 23 = .ok (.getfield 204, 3) := by decide +kernel
theorem dX8_wasted_26 : decode cX8_wasted 26 = .ok (.ireturn, 1) := by decide +kernel
theorem dX8_relieved_0 : decode cX8_relieved 0 = .ok (.aload_n 0, 1) := by decide +kernel
theorem dX8_relieved_1 : decode cX8_relieved 1 = .ok (.getfield 10, 3) := by decide +kernel
theorem dX8_relieved_4 : decode cX8_relieved 4 = .ok (.iload_n 1, 1) := by decide +kernel
theorem dX8_relieved_5 : decode cX8_relieved 5 = .ok (.invokevirtual 72, 3) := by decide +kernel
theorem dX8_relieved_8 : decode cX8_relieved 8 = .ok (.astore_n 2, 1) := by decide +kernel
theorem dX8_relieved_9 : decode cX8_relieved 9 = .ok (.aload_n 2, 1) := by decide +kernel
theorem dX8_relieved_10 : decode cX8_relieved 10 = .ok (.ifnonnull 9, 3) := by decide +kernel
theorem dX8_relieved_13 : decode cX8_relieved 13 = .ok (.sipush (-1001), 3) := by decide +kernel
theorem dX8_relieved_16 : decode cX8_relieved 16 = .ok (.goto 10, 3) := by decide +kernel
theorem dX8_relieved_19 : decode cX8_relieved 19 = .ok (.aload_n 2, 1) := by decide +kernel
theorem dX8_relieved_20 : decode cX8_relieved 20 = .ok (.getfield 195, 3) := by decide +kernel
theorem dX8_relieved_23 : decode cX8_relieved 23 = .ok (.getfield 207, 3) := by decide +kernel
theorem dX8_relieved_26 : decode cX8_relieved 26 = .ok (.ireturn, 1) := by decide +kernel
theorem dX8_lifted_0 : decode cX8_lifted 0 = .ok (.aload_n 0, 1) := by decide +kernel
theorem dX8_lifted_1 : decode cX8_lifted 1 = .ok (.getfield 10, 3) := by decide +kernel
theorem dX8_lifted_4 : decode cX8_lifted 4 = .ok (.iload_n 1, 1) := by decide +kernel
theorem dX8_lifted_5 : decode cX8_lifted 5 = .ok (.invokevirtual 72, 3) := by decide +kernel
theorem dX8_lifted_8 : decode cX8_lifted 8 = .ok (.astore_n 2, 1) := by decide +kernel
theorem dX8_lifted_9 : decode cX8_lifted 9 = .ok (.aload_n 2, 1) := by decide +kernel
theorem dX8_lifted_10 : decode cX8_lifted 10 = .ok (.ifnonnull 9, 3) := by decide +kernel
theorem dX8_lifted_13 : decode cX8_lifted 13 = .ok (.sipush (-1001), 3) := by decide +kernel
theorem dX8_lifted_16 : decode cX8_lifted 16 = .ok (.goto 10, 3) := by decide +kernel
theorem dX8_lifted_19 : decode cX8_lifted 19 = .ok (.aload_n 2, 1) := by decide +kernel
theorem dX8_lifted_20 : decode cX8_lifted 20 = .ok (.getfield 195, 3) := by decide +kernel
theorem dX8_lifted_23 : decode cX8_lifted 23 = .ok (.getfield 210, 3) := by decide +kernel
theorem dX8_lifted_26 : decode cX8_lifted 26 = .ok (.ireturn, 1) := by decide +kernel
theorem dX8_overflowed_0 : decode cX8_overflowed 0 = .ok (.aload_n 0, 1) := by decide +kernel
theorem dX8_overflowed_1 : decode cX8_overflowed 1 = .ok (.getfield 10, 3) := by decide +kernel
theorem dX8_overflowed_4 : decode cX8_overflowed 4 = .ok (.iload_n 1, 1) := by decide +kernel
theorem dX8_overflowed_5 : decode cX8_overflowed 5 = .ok (.invokevirtual 72, 3) := by decide +kernel
theorem dX8_overflowed_8 : decode cX8_overflowed 8 = .ok (.astore_n 2, 1) := by decide +kernel
theorem dX8_overflowed_9 : decode cX8_overflowed 9 = .ok (.aload_n 2, 1) := by decide +kernel
theorem dX8_overflowed_10 : decode cX8_overflowed 10 = .ok (.ifnonnull 9, 3) := by decide +kernel
theorem dX8_overflowed_13 : decode cX8_overflowed 13 = .ok (.sipush (-1001), 3) := by decide +kernel
theorem dX8_overflowed_16 : decode cX8_overflowed 16 = .ok (.goto 10, 3) := by decide +kernel
theorem dX8_overflowed_19 : decode cX8_overflowed 19 = .ok (.aload_n 2, 1) := by decide +kernel
theorem dX8_overflowed_20 : decode cX8_overflowed 20 = .ok (.getfield 195, 3) := by decide +kernel
theorem dX8_overflowed_23 : decode cX8_overflowed 23 = .ok (.getfield 213, 3) := by decide +kernel
theorem dX8_overflowed_26 : decode cX8_overflowed 26 = .ok (.ireturn, 1) := by decide +kernel
theorem dX8_starved_0 : decode cX8_starved 0 = .ok (.aload_n 0, 1) := by decide +kernel
theorem dX8_starved_1 : decode cX8_starved 1 = .ok (.getfield 10, 3) := by decide +kernel
theorem dX8_starved_4 : decode cX8_starved 4 = .ok (.iload_n 1, 1) := by decide +kernel
theorem dX8_starved_5 : decode cX8_starved 5 = .ok (.invokevirtual 72, 3) := by decide +kernel
theorem dX8_starved_8 : decode cX8_starved 8 = .ok (.astore_n 2, 1) := by decide +kernel
theorem dX8_starved_9 : decode cX8_starved 9 = .ok (.aload_n 2, 1) := by decide +kernel
theorem dX8_starved_10 : decode cX8_starved 10 = .ok (.ifnonnull 9, 3) := by decide +kernel
theorem dX8_starved_13 : decode cX8_starved 13 = .ok (.sipush (-1001), 3) := by decide +kernel
theorem dX8_starved_16 : decode cX8_starved 16 = .ok (.goto 10, 3) := by decide +kernel
theorem dX8_starved_19 : decode cX8_starved 19 = .ok (.aload_n 2, 1) := by decide +kernel
theorem dX8_starved_20 : decode cX8_starved 20 = .ok (.getfield 195, 3) := by decide +kernel
theorem dX8_starved_23 : decode cX8_starved 23 = .ok (.getfield 216, 3) := by decide +kernel
theorem dX8_starved_26 : decode cX8_starved 26 = .ok (.ireturn, 1) := by decide +kernel
theorem dX8_tank_0 : decode cX8_tank 0 = .ok (.aload_n 0, 1) := by decide +kernel
theorem dX8_tank_1 : decode cX8_tank 1 = .ok (.getfield 10, 3) := by decide +kernel
theorem dX8_tank_4 : decode cX8_tank 4 = .ok (.iload_n 1, 1) := by decide +kernel
theorem dX8_tank_5 : decode cX8_tank 5 = .ok (.invokevirtual 72, 3) := by decide +kernel
theorem dX8_tank_8 : decode cX8_tank 8 = .ok (.astore_n 2, 1) := by decide +kernel
theorem dX8_tank_9 : decode cX8_tank 9 = .ok (.aload_n 2, 1) := by decide +kernel
theorem dX8_tank_10 : decode cX8_tank 10 = .ok (.ifnonnull 9, 3) := by decide +kernel
theorem dX8_tank_13 : decode cX8_tank 13 = .ok (.sipush (-1001), 3) := by decide +kernel
theorem dX8_tank_16 : decode cX8_tank 16 = .ok (.goto 7, 3) := by decide +kernel
theorem dX8_tank_19 : decode cX8_tank 19 = .ok (.aload_n 2, 1) := by decide +kernel
theorem dX8_tank_20 : decode cX8_tank 20 = .ok (.getfield 119, 3) := by decide +kernel
theorem dX8_tank_23 : decode cX8_tank 23 = .ok (.ireturn, 1) := by decide +kernel
theorem dX8_interval_0 : decode cX8_interval 0 = .ok (.aload_n 0, 1) := by decide +kernel
theorem dX8_interval_1 : decode cX8_interval 1 = .ok (.getfield 10, 3) := by decide +kernel
theorem dX8_interval_4 : decode cX8_interval 4 = .ok (.iload_n 1, 1) := by decide +kernel
theorem dX8_interval_5 : decode cX8_interval 5 = .ok (.invokevirtual 72, 3) := by decide +kernel
theorem dX8_interval_8 : decode cX8_interval 8 = .ok (.astore_n 3, 1) := by decide +kernel
theorem dX8_interval_9 : decode cX8_interval 9 = .ok (.aload_n 3, 1) := by decide +kernel
theorem dX8_interval_10 : decode cX8_interval 10 = .ok (.ifnonnull 7, 3) := by decide +kernel
theorem dX8_interval_13 : decode cX8_interval 13 = .ok (.sipush (-1001), 3) := by decide +kernel
theorem dX8_interval_16 : decode cX8_interval 16 = .ok (.ireturn, 1) := by decide +kernel
theorem dX8_interval_17 : decode cX8_interval 17 = .ok (.iload_n 2, 1) := by decide +kernel
theorem dX8_interval_18 : decode cX8_interval 18 = .ok (.ifCond .ge 9, 3) := by decide +kernel
theorem dX8_interval_21 : decode cX8_interval 21 = .ok (.sipush (-1002), 3) := by decide +kernel
theorem dX8_interval_24 : decode cX8_interval 24 = .ok (.goto 11, 3) := by decide +kernel
theorem dX8_interval_27 : decode cX8_interval 27 = .ok (.aload_n 3, 1) := by decide +kernel
theorem dX8_interval_28 : decode cX8_interval 28 = .ok (.getfield 219, 3) := by decide +kernel
theorem dX8_interval_31 : decode cX8_interval 31 = .ok (.iload_n 2, 1) := by decide +kernel
theorem dX8_interval_32 : decode cX8_interval 32 = .ok (.invokevirtual 169, 3) := by decide +kernel
theorem dX8_interval_35 : decode cX8_interval 35 = .ok (.ireturn, 1) := by decide +kernel
theorem dX8_trace_0 : decode cX8_trace 0 = .ok (.aload_n 0, 1) := by decide +kernel
theorem dX8_trace_1 : decode cX8_trace 1 = .ok (.getfield 10, 3) := by decide +kernel
theorem dX8_trace_4 : decode cX8_trace 4 = .ok (.iload_n 1, 1) := by decide +kernel
theorem dX8_trace_5 : decode cX8_trace 5 = .ok (.invokevirtual 72, 3) := by decide +kernel
theorem dX8_trace_8 : decode cX8_trace 8 = .ok (.astore_n 3, 1) := by decide +kernel
theorem dX8_trace_9 : decode cX8_trace 9 = .ok (.aload_n 3, 1) := by decide +kernel
theorem dX8_trace_10 : decode cX8_trace 10 = .ok (.ifnonnull 7, 3) := by decide +kernel
theorem dX8_trace_13 : decode cX8_trace 13 = .ok (.sipush (-1001), 3) := by decide +kernel
theorem dX8_trace_16 : decode cX8_trace 16 = .ok (.ireturn, 1) := by decide +kernel
theorem dX8_trace_17 : decode cX8_trace 17 = .ok (.iload_n 2, 1) := by decide +kernel
theorem dX8_trace_18 : decode cX8_trace 18 = .ok (.ifCond .ge 9, 3) := by decide +kernel
theorem dX8_trace_21 : decode cX8_trace 21 = .ok (.sipush (-1002), 3) := by decide +kernel
theorem dX8_trace_24 : decode cX8_trace 24 = .ok (.goto 11, 3) := by decide +kernel
theorem dX8_trace_27 : decode cX8_trace 27 = .ok (.aload_n 3, 1) := by decide +kernel
theorem dX8_trace_28 : decode cX8_trace 28 = .ok (.getfield 222, 3) := by decide +kernel
theorem dX8_trace_31 : decode cX8_trace 31 = .ok (.iload_n 2, 1) := by decide +kernel
theorem dX8_trace_32 : decode cX8_trace 32 = .ok (.invokevirtual 169, 3) := by decide +kernel
theorem dX8_trace_35 : decode cX8_trace 35 = .ok (.ireturn, 1) := by decide +kernel
theorem dX8_efficiency_0 : decode cX8_efficiency 0 = .ok (.aload_n 0, 1) := by decide +kernel
theorem dX8_efficiency_1 : decode cX8_efficiency 1 = .ok (.getfield 10, 3) := by decide +kernel
theorem dX8_efficiency_4 : decode cX8_efficiency 4 = .ok (.iload_n 1, 1) := by decide +kernel
theorem dX8_efficiency_5 : decode cX8_efficiency 5 = .ok (.invokevirtual 72, 3) := by decide +kernel
theorem dX8_efficiency_8 : decode cX8_efficiency 8 = .ok (.astore_n 2, 1) := by decide +kernel
theorem dX8_efficiency_9 : decode cX8_efficiency 9 = .ok (.aload_n 2, 1) := by decide +kernel
theorem dX8_efficiency_10 : decode cX8_efficiency 10 = .ok (.ifnonnull 9, 3) := by decide +kernel
theorem dX8_efficiency_13 : decode cX8_efficiency 13 = .ok (.sipush (-1001), 3) := by decide +kernel
theorem dX8_efficiency_16 : decode cX8_efficiency 16 = .ok (.goto 7, 3) := by decide +kernel
theorem dX8_efficiency_19 : decode cX8_efficiency 19 = .ok (.aload_n 2, 1) := by decide +kernel
theorem dX8_efficiency_20 : decode cX8_efficiency 20 = .ok (.invokevirtual 225, 3) := by decide +kernel
theorem dX8_efficiency_23 : decode cX8_efficiency 23 = .ok (.ireturn, 1) := by decide +kernel
theorem dX8_bestPump_0 : decode cX8_bestPump 0 = .ok (.sipush (-1005), 3) := by decide +kernel
theorem dX8_bestPump_3 : decode cX8_bestPump 3 = .ok (.istore_n 1, 1) := by decide +kernel
theorem dX8_bestPump_4 : decode cX8_bestPump 4 = .ok (.iconst (-1), 1) := by decide +kernel
theorem dX8_bestPump_5 : decode cX8_bestPump 5 = .ok (.istore_n 2, 1) := by decide +kernel
theorem dX8_bestPump_6 : decode cX8_bestPump 6 = .ok (.iconst 0, 1) := by decide +kernel
theorem dX8_bestPump_7 : decode cX8_bestPump 7 = .ok (.istore_n 3, 1) := by decide +kernel
theorem dX8_bestPump_8 : decode cX8_bestPump 8 = .ok (.iload_n 3, 1) := by decide +kernel
theorem dX8_bestPump_9 : decode cX8_bestPump 9 = .ok (.aload_n 0, 1) := by decide +kernel
theorem dX8_bestPump_10 : decode cX8_bestPump 10 = .ok (.getfield 10, 3) := by decide +kernel
theorem dX8_bestPump_13 : decode cX8_bestPump 13 = .ok (.getfield 62, 3) := by decide +kernel
theorem dX8_bestPump_16 : decode cX8_bestPump 16 = .ok (.if_icmp .ge 27, 3) := by decide +kernel
theorem dX8_bestPump_19 : decode cX8_bestPump 19 = .ok (.aload_n 0, 1) := by decide +kernel
theorem dX8_bestPump_20 : decode cX8_bestPump 20 = .ok (.iload_n 3, 1) := by decide +kernel
theorem dX8_bestPump_21 : decode cX8_bestPump 21 = .ok (.invokevirtual 228, 3) := by decide +kernel
theorem dX8_bestPump_24 : decode cX8_bestPump 24 = .ok (.istore 4, 2) := by decide +kernel
theorem dX8_bestPump_26 : decode cX8_bestPump 26 = .ok (.iload 4, 2) := by decide +kernel
theorem dX8_bestPump_28 : decode cX8_bestPump 28 = .ok (.iload_n 2, 1) := by decide +kernel
theorem dX8_bestPump_29 : decode cX8_bestPump 29 = .ok (.if_icmp .le 8, 3) := by decide +kernel
theorem dX8_bestPump_32 : decode cX8_bestPump 32 = .ok (.iload 4, 2) := by decide +kernel
theorem dX8_bestPump_34 : decode cX8_bestPump 34 = .ok (.istore_n 2, 1) := by decide +kernel
theorem dX8_bestPump_35 : decode cX8_bestPump 35 = .ok (.iload_n 3, 1) := by decide +kernel
theorem dX8_bestPump_36 : decode cX8_bestPump 36 = .ok (.istore_n 1, 1) := by decide +kernel
theorem dX8_bestPump_37 : decode cX8_bestPump 37 = .ok (.iinc 3 1, 3) := by decide +kernel
theorem dX8_bestPump_40 : decode cX8_bestPump 40 = .ok (.goto (-32), 3) := by decide +kernel
theorem dX8_bestPump_43 : decode cX8_bestPump 43 = .ok (.iload_n 1, 1) := by decide +kernel
theorem dX8_bestPump_44 : decode cX8_bestPump 44 = .ok (.ireturn, 1) := by decide +kernel
theorem dX8_ticksToSlam_0 : decode cX8_ticksToSlam 0 = .ok (.aload_n 0, 1) := by decide +kernel
theorem dX8_ticksToSlam_1 : decode cX8_ticksToSlam 1 = .ok (.getfield 10, 3) := by decide +kernel
theorem dX8_ticksToSlam_4 : decode cX8_ticksToSlam 4 = .ok (.iload_n 1, 1) := by decide +kernel
theorem dX8_ticksToSlam_5 : decode cX8_ticksToSlam 5 = .ok (.invokevirtual 72, 3) := by decide +kernel
theorem dX8_ticksToSlam_8 : decode cX8_ticksToSlam 8 = .ok (.astore_n 2, 1) := by decide +kernel
theorem dX8_ticksToSlam_9 : decode cX8_ticksToSlam 9 = .ok (.aload_n 2, 1) := by decide +kernel
theorem dX8_ticksToSlam_10 : decode cX8_ticksToSlam 10 = .ok (.ifnonnull 7, 3) := by decide +kernel
theorem dX8_ticksToSlam_13 : decode cX8_ticksToSlam 13 = .ok (.sipush (-1001), 3) := by decide +kernel
theorem dX8_ticksToSlam_16 : decode cX8_ticksToSlam 16 = .ok (.ireturn, 1) := by decide +kernel
theorem dX8_ticksToSlam_17 : decode cX8_ticksToSlam 17 = .ok (.aload_n 0, 1) := by decide +kernel
theorem dX8_ticksToSlam_18 : decode cX8_ticksToSlam 18 = .ok (.getfield 50, 3) := by decide +kernel
theorem dX8_ticksToSlam_21 : decode cX8_ticksToSlam 21 = .ok (.aload_n 2, 1) := by decide +kernel
theorem dX8_ticksToSlam_22 : decode cX8_ticksToSlam 22 = .ok (.invokevirtual 231, 3) := by decide +kernel
theorem dX8_ticksToSlam_25 : decode cX8_ticksToSlam 25 = .ok (.iconst 1, 1) := by decide +kernel
theorem dX8_ticksToSlam_26 : decode cX8_ticksToSlam 26 = .ok (.istore_n 3, 1) := by decide +kernel
theorem dX8_ticksToSlam_27 : decode cX8_ticksToSlam 27 = .ok (.iload_n 3, 1) := by decide +kernel
theorem dX8_ticksToSlam_28 : decode cX8_ticksToSlam 28 = .ok (.sipush 2000, 3) := by decide +kernel
theorem dX8_ticksToSlam_31 : decode cX8_ticksToSlam 31 = .ok (.if_icmp .gt 25, 3) := by decide +kernel
theorem dX8_ticksToSlam_34 : decode cX8_ticksToSlam 34 = .ok (.aload_n 0, 1) := by decide +kernel
theorem dX8_ticksToSlam_35 : decode cX8_ticksToSlam 35 = .ok (.invokevirtual 234, 3) := by decide +kernel
theorem dX8_ticksToSlam_38 : decode cX8_ticksToSlam 38 = .ok (.aload_n 0, 1) := by decide +kernel
theorem dX8_ticksToSlam_39 : decode cX8_ticksToSlam 39 = .ok (.getfield 41, 3) := by decide +kernel
theorem dX8_ticksToSlam_42 : decode cX8_ticksToSlam 42 = .ok (.getfield 237, 3) := by decide +kernel
theorem dX8_ticksToSlam_45 : decode cX8_ticksToSlam 45 = .ok (.ifCond .eq 5, 3) := by decide +kernel
theorem dX8_ticksToSlam_48 : decode cX8_ticksToSlam 48 = .ok (.iload_n 3, 1) := by decide +kernel
theorem dX8_ticksToSlam_49 : decode cX8_ticksToSlam 49 = .ok (.ireturn, 1) := by decide +kernel
theorem dX8_ticksToSlam_50 : decode cX8_ticksToSlam 50 = .ok (.iinc 3 1, 3) := by decide +kernel
theorem dX8_ticksToSlam_53 : decode cX8_ticksToSlam 53 = .ok (.goto (-26), 3) := by decide +kernel
theorem dX8_ticksToSlam_56 : decode cX8_ticksToSlam 56 = .ok (.sipush (-1005), 3) := by decide +kernel
theorem dX8_ticksToSlam_59 : decode cX8_ticksToSlam 59 = .ok (.ireturn, 1) := by decide +kernel
theorem dX8_deliveredIn_0 : decode cX8_deliveredIn 0 = .ok (.aload_n 0, 1) := by decide +kernel
theorem dX8_deliveredIn_1 : decode cX8_deliveredIn 1 = .ok (.getfield 10, 3) := by decide +kernel
theorem dX8_deliveredIn_4 : decode cX8_deliveredIn 4 = .ok (.iload_n 1, 1) := by decide +kernel
theorem dX8_deliveredIn_5 : decode cX8_deliveredIn 5 = .ok (.invokevirtual 72, 3) := by decide +kernel
theorem dX8_deliveredIn_8 : decode cX8_deliveredIn 8 = .ok (.astore_n 3, 1) := by decide +kernel
theorem dX8_deliveredIn_9 : decode cX8_deliveredIn 9 = .ok (.aload_n 3, 1) := by decide +kernel
theorem dX8_deliveredIn_10 : decode cX8_deliveredIn 10 = .ok (.ifnonnull 7, 3) := by decide +kernel
theorem dX8_deliveredIn_13 : decode cX8_deliveredIn 13 = .ok (.sipush (-1001), 3) := by decide +kernel
theorem dX8_deliveredIn_16 : decode cX8_deliveredIn 16 = .ok (.ireturn, 1) := by decide +kernel
theorem dX8_deliveredIn_17 : decode cX8_deliveredIn 17 = .ok (.iload_n 2, 1) := by decide +kernel
theorem dX8_deliveredIn_18 : decode cX8_deliveredIn 18 = .ok (.iconst 1, 1) := by decide +kernel
theorem dX8_deliveredIn_19 : decode cX8_deliveredIn 19 = .ok (.sipush 500, 3) := by decide +kernel
theorem dX8_deliveredIn_22 : decode cX8_deliveredIn 22 = .ok (.invokestatic 58, 3) := by decide +kernel
theorem dX8_deliveredIn_25 : decode cX8_deliveredIn 25 = .ok (.ifCond .eq 7, 3) := by decide +kernel
theorem dX8_deliveredIn_28 : decode cX8_deliveredIn 28 = .ok (.sipush (-1002), 3) := by decide +kernel
theorem dX8_deliveredIn_31 : decode cX8_deliveredIn 31 = .ok (.ireturn, 1) := by decide +kernel
theorem dX8_deliveredIn_32 : decode cX8_deliveredIn 32 = .ok (.aload_n 0, 1) := by decide +kernel
theorem dX8_deliveredIn_33 : decode cX8_deliveredIn 33 = .ok (.getfield 50, 3) := by decide +kernel
theorem dX8_deliveredIn_36 : decode cX8_deliveredIn 36 = .ok (.aload_n 3, 1) := by decide +kernel
theorem dX8_deliveredIn_37 : decode cX8_deliveredIn 37 = .ok (.invokevirtual 231, 3) := by decide +kernel
theorem dX8_deliveredIn_40 : decode cX8_deliveredIn 40 = .ok (.aload_n 0, 1) := by decide +kernel
theorem dX8_deliveredIn_41 : decode cX8_deliveredIn 41 = .ok (.iload_n 2, 1) := by decide +kernel
theorem dX8_deliveredIn_42 : decode cX8_deliveredIn 42 = .ok (.invokevirtual 240, 3) := by decide +kernel
theorem dX8_deliveredIn_45 : decode cX8_deliveredIn 45 = .ok (.ireturn, 1) := by decide +kernel
theorem dX8_drawnIn_0 : decode cX8_drawnIn 0 = .ok (.aload_n 0, 1) := by decide +kernel
theorem dX8_drawnIn_1 : decode cX8_drawnIn 1 = .ok (.getfield 10, 3) := by decide +kernel
theorem dX8_drawnIn_4 : decode cX8_drawnIn 4 = .ok (.iload_n 1, 1) := by decide +kernel
theorem dX8_drawnIn_5 : decode cX8_drawnIn 5 = .ok (.invokevirtual 72, 3) := by decide +kernel
theorem dX8_drawnIn_8 : decode cX8_drawnIn 8 = .ok (.astore_n 3, 1) := by decide +kernel
theorem dX8_drawnIn_9 : decode cX8_drawnIn 9 = .ok (.aload_n 3, 1) := by decide +kernel
theorem dX8_drawnIn_10 : decode cX8_drawnIn 10 = .ok (.ifnonnull 7, 3) := by decide +kernel
theorem dX8_drawnIn_13 : decode cX8_drawnIn 13 = .ok (.sipush (-1001), 3) := by decide +kernel
theorem dX8_drawnIn_16 : decode cX8_drawnIn 16 = .ok (.ireturn, 1) := by decide +kernel
theorem dX8_drawnIn_17 : decode cX8_drawnIn 17 = .ok (.iload_n 2, 1) := by decide +kernel
theorem dX8_drawnIn_18 : decode cX8_drawnIn 18 = .ok (.iconst 1, 1) := by decide +kernel
theorem dX8_drawnIn_19 : decode cX8_drawnIn 19 = .ok (.sipush 500, 3) := by decide +kernel
theorem dX8_drawnIn_22 : decode cX8_drawnIn 22 = .ok (.invokestatic 58, 3) := by decide +kernel
theorem dX8_drawnIn_25 : decode cX8_drawnIn 25 = .ok (.ifCond .eq 7, 3) := by decide +kernel
theorem dX8_drawnIn_28 : decode cX8_drawnIn 28 = .ok (.sipush (-1002), 3) := by decide +kernel
theorem dX8_drawnIn_31 : decode cX8_drawnIn 31 = .ok (.ireturn, 1) := by decide +kernel
theorem dX8_drawnIn_32 : decode cX8_drawnIn 32 = .ok (.aload_n 0, 1) := by decide +kernel
theorem dX8_drawnIn_33 : decode cX8_drawnIn 33 = .ok (.getfield 50, 3) := by decide +kernel
theorem dX8_drawnIn_36 : decode cX8_drawnIn 36 = .ok (.aload_n 3, 1) := by decide +kernel
theorem dX8_drawnIn_37 : decode cX8_drawnIn 37 = .ok (.invokevirtual 231, 3) := by decide +kernel
theorem dX8_drawnIn_40 : decode cX8_drawnIn 40 = .ok (.iconst 0, 1) := by decide +kernel
theorem dX8_drawnIn_41 : decode cX8_drawnIn 41 = .ok (.istore 4, 2) := by decide +kernel
theorem dX8_drawnIn_43 : decode cX8_drawnIn 43 = .ok (.iconst 0, 1) := by decide +kernel
theorem dX8_drawnIn_44 : decode cX8_drawnIn 44 = .ok (.istore 5, 2) := by decide +kernel
theorem dX8_drawnIn_46 : decode cX8_drawnIn 46 = .ok (.iload 5, 2) := by decide +kernel
theorem dX8_drawnIn_48 : decode cX8_drawnIn 48 = .ok (.iload_n 2, 1) := by decide +kernel
theorem dX8_drawnIn_49 : decode cX8_drawnIn 49 = .ok (.if_icmp .ge 25, 3) := by decide +kernel
theorem dX8_drawnIn_52 : decode cX8_drawnIn 52 = .ok (.aload_n 0, 1) := by decide +kernel
theorem dX8_drawnIn_53 : decode cX8_drawnIn 53 = .ok (.invokevirtual 234, 3) := by decide +kernel
theorem dX8_drawnIn_56 : decode cX8_drawnIn 56 = .ok (.iload 4, 2) := by decide +kernel
theorem dX8_drawnIn_58 : decode cX8_drawnIn 58 = .ok (.aload_n 0, 1) := by decide +kernel
theorem dX8_drawnIn_59 : decode cX8_drawnIn 59 = .ok (.getfield 41, 3) := by decide +kernel
theorem dX8_drawnIn_62 : decode cX8_drawnIn 62 = .ok (.getfield 243, 3) := by decide +kernel
theorem dX8_drawnIn_65 : decode cX8_drawnIn 65 = .ok (.iadd, 1) := by decide +kernel
theorem dX8_drawnIn_66 : decode cX8_drawnIn 66 = .ok (.istore 4, 2) := by decide +kernel
theorem dX8_drawnIn_68 : decode cX8_drawnIn 68 = .ok (.iinc 5 1, 3) := by decide +kernel
theorem dX8_drawnIn_71 : decode cX8_drawnIn 71 = .ok (.goto (-25), 3) := by decide +kernel
theorem dX8_drawnIn_74 : decode cX8_drawnIn 74 = .ok (.iload 4, 2) := by decide +kernel
theorem dX8_drawnIn_76 : decode cX8_drawnIn 76 = .ok (.ireturn, 1) := by decide +kernel
theorem dX8_period_0 : decode cX8_period 0 = .ok (.aload_n 0, 1) := by decide +kernel
theorem dX8_period_1 : decode cX8_period 1 = .ok (.getfield 10, 3) := by decide +kernel
theorem dX8_period_4 : decode cX8_period 4 = .ok (.iload_n 1, 1) := by decide +kernel
theorem dX8_period_5 : decode cX8_period 5 = .ok (.invokevirtual 72, 3) := by decide +kernel
theorem dX8_period_8 : decode cX8_period 8 = .ok (.astore_n 2, 1) := by decide +kernel
theorem dX8_period_9 : decode cX8_period 9 = .ok (.aload_n 2, 1) := by decide +kernel
theorem dX8_period_10 : decode cX8_period 10 = .ok (.ifnonnull 7, 3) := by decide +kernel
theorem dX8_period_13 : decode cX8_period 13 = .ok (.sipush (-1001), 3) := by decide +kernel
theorem dX8_period_16 : decode cX8_period 16 = .ok (.ireturn, 1) := by decide +kernel
theorem dX8_period_17 : decode cX8_period 17 = .ok (.aload_n 0, 1) := by decide +kernel
theorem dX8_period_18 : decode cX8_period 18 = .ok (.getfield 50, 3) := by decide +kernel
theorem dX8_period_21 : decode cX8_period 21 = .ok (.aload_n 2, 1) := by decide +kernel
theorem dX8_period_22 : decode cX8_period 22 = .ok (.invokevirtual 231, 3) := by decide +kernel
theorem dX8_period_25 : decode cX8_period 25 = .ok (.iconst 0, 1) := by decide +kernel
theorem dX8_period_26 : decode cX8_period 26 = .ok (.istore_n 3, 1) := by decide +kernel
theorem dX8_period_27 : decode cX8_period 27 = .ok (.iload_n 3, 1) := by decide +kernel
theorem dX8_period_28 : decode cX8_period 28 = .ok (.aload_n 0, 1) := by decide +kernel
theorem dX8_period_29 : decode cX8_period 29 = .ok (.getfield 54, 3) := by decide +kernel
theorem dX8_period_32 : decode cX8_period 32 = .ok (.arraylength, 1) := by decide +kernel
theorem dX8_period_33 : decode cX8_period 33 = .ok (.if_icmp .ge 42, 3) := by decide +kernel
theorem dX8_period_36 : decode cX8_period 36 = .ok (.aload_n 0, 1) := by decide +kernel
theorem dX8_period_37 : decode cX8_period 37 = .ok (.invokevirtual 234, 3) := by decide +kernel
theorem dX8_period_40 : decode cX8_period 40 = .ok (.aload_n 0, 1) := by decide +kernel
theorem dX8_period_41 : decode cX8_period 41 = .ok (.getfield 54, 3) := by decide +kernel
theorem dX8_period_44 : decode cX8_period 44 = .ok (.iload_n 3, 1) := by decide +kernel
theorem dX8_period_45 : decode cX8_period 45 = .ok (.aload_n 0, 1) := by decide +kernel
theorem dX8_period_46 : decode cX8_period 46 = .ok (.getfield 41, 3) := by decide +kernel
theorem dX8_period_49 : decode cX8_period 49 = .ok (.getfield 237, 3) := by decide +kernel
theorem dX8_period_52 : decode cX8_period 52 = .ok (.ifCond .eq 13, 3) := by decide +kernel
theorem dX8_period_55 : decode cX8_period 55 = .ok (.aload_n 0, 1) := by decide +kernel
theorem dX8_period_56 : decode cX8_period 56 = .ok (.getfield 50, 3) := by decide +kernel
theorem dX8_period_59 : decode cX8_period 59 = .ok (.invokevirtual 246, 3) := by decide +kernel
theorem dX8_period_62 : decode cX8_period 62 = .ok (.goto 6, 3) := by decide +kernel
theorem dX8_period_65 : decode cX8_period 65 = .ok (.ldc2_w 250, 3) := by decide +kernel
theorem dX8_period_68 : decode cX8_period 68 = .ok (.lastore, 1) := by decide +kernel
theorem dX8_period_69 : decode cX8_period 69 = .ok (.iinc 3 1, 3) := by decide +kernel
theorem dX8_period_72 : decode cX8_period 72 = .ok (.goto (-45), 3) := by decide +kernel
theorem dX8_period_75 : decode cX8_period 75 = .ok (.aload_n 0, 1) := by decide +kernel
theorem dX8_period_76 : decode cX8_period 76 = .ok (.invokevirtual 252, 3) := by decide +kernel
theorem dX8_period_79 : decode cX8_period 79 = .ok (.ireturn, 1) := by decide +kernel
theorem dX8_bestLength_0 : decode cX8_bestLength 0 = .ok (.aload_n 0, 1) := by decide +kernel
theorem dX8_bestLength_1 : decode cX8_bestLength 1 = .ok (.getfield 10, 3) := by decide +kernel
theorem dX8_bestLength_4 : decode cX8_bestLength 4 = .ok (.iload_n 1, 1) := by decide +kernel
theorem dX8_bestLength_5 : decode cX8_bestLength 5 = .ok (.invokevirtual 72, 3) := by decide +kernel
theorem dX8_bestLength_8 : decode cX8_bestLength 8 = .ok (.astore_n 3, 1) := by decide +kernel
theorem dX8_bestLength_9 : decode cX8_bestLength 9 = .ok (.aload_n 3, 1) := by decide +kernel
theorem dX8_bestLength_10 : decode cX8_bestLength 10 = .ok (.ifnonnull 7, 3) := by decide +kernel
theorem dX8_bestLength_13 : decode cX8_bestLength 13 = .ok (.sipush (-1001), 3) := by decide +kernel
theorem dX8_bestLength_16 : decode cX8_bestLength 16 = .ok (.ireturn, 1) := by decide +kernel
theorem dX8_bestLength_17 : decode cX8_bestLength 17 = .ok (.iload_n 2, 1) := by decide +kernel
theorem dX8_bestLength_18 : decode cX8_bestLength 18 = .ok (.iconst 1, 1) := by decide +kernel
theorem dX8_bestLength_19 : decode cX8_bestLength 19 = .ok (.sipush 300, 3) := by decide +kernel
theorem dX8_bestLength_22 : decode cX8_bestLength 22 = .ok (.invokestatic 58, 3) := by decide +kernel
theorem dX8_bestLength_25 : decode cX8_bestLength 25 = .ok (.ifCond .eq 7, 3) := by decide +kernel
theorem dX8_bestLength_28 : decode cX8_bestLength 28 = .ok (.sipush (-1002), 3) := by decide +kernel
theorem dX8_bestLength_31 : decode cX8_bestLength 31 = .ok (.ireturn, 1) := by decide +kernel
theorem dX8_bestLength_32 : decode cX8_bestLength 32 = .ok (.iconst 0, 1) := by decide +kernel
theorem dX8_bestLength_33 : decode cX8_bestLength 33 = .ok (.istore 4, 2) := by decide +kernel
theorem dX8_bestLength_35 : decode cX8_bestLength 35 = .ok (.iconst (-1), 1) := by decide +kernel
theorem dX8_bestLength_36 : decode cX8_bestLength 36 = .ok (.istore 5, 2) := by decide +kernel
theorem dX8_bestLength_38 : decode cX8_bestLength 38 = .ok (.bipush 10, 2) := by decide +kernel
theorem dX8_bestLength_40 : decode cX8_bestLength 40 = .ok (.istore 6, 2) := by decide +kernel
theorem dX8_bestLength_42 : decode cX8_bestLength 42 = .ok (.iload 6, 2) := by decide +kernel
theorem dX8_bestLength_44 : decode cX8_bestLength 44 = .ok (.sipush 400, 3) := by decide +kernel
theorem dX8_bestLength_47 : decode cX8_bestLength 47 = .ok (.if_icmp .gt 38, 3) := by decide +kernel
theorem dX8_bestLength_50 : decode cX8_bestLength 50 = .ok (.aload_n 0, 1) := by decide +kernel
theorem dX8_bestLength_51 : decode cX8_bestLength 51 = .ok (.aload_n 3, 1) := by decide +kernel
theorem dX8_bestLength_52 : decode cX8_bestLength 52 = .ok (.iload 6, 2) := by decide +kernel
theorem dX8_bestLength_54 : decode cX8_bestLength 54 = .ok (.aload_n 3, 1) := by decide +kernel
theorem dX8_bestLength_55 : decode cX8_bestLength 55 = .ok (.getfield 80, 3) := by decide +kernel
theorem dX8_bestLength_58 : decode cX8_bestLength 58 = .ok (.iload_n 2, 1) := by decide +kernel
theorem dX8_bestLength_59 : decode cX8_bestLength 59 = .ok (.invokevirtual 255, 3) := by decide +kernel
theorem dX8_bestLength_62 : decode cX8_bestLength 62 = .ok (.istore 7, 2) := by decide +kernel
theorem dX8_bestLength_64 : decode cX8_bestLength 64 = .ok (.iload 7, 2) := by decide +kernel
theorem dX8_bestLength_66 : decode cX8_bestLength 66 = .ok (.iload 5, 2) := by decide +kernel
theorem dX8_bestLength_68 : decode cX8_bestLength 68 = .ok (.if_icmp .le 11, 3) := by decide +kernel
theorem dX8_bestLength_71 : decode cX8_bestLength 71 = .ok (.iload 7, 2) := by decide +kernel
theorem dX8_bestLength_73 : decode cX8_bestLength 73 = .ok (.istore 5, 2) := by decide +kernel
theorem dX8_bestLength_75 : decode cX8_bestLength 75 = .ok (.iload 6, 2) := by decide +kernel
theorem dX8_bestLength_77 : decode cX8_bestLength 77 = .ok (.istore 4, 2) := by decide +kernel
theorem dX8_bestLength_79 : decode cX8_bestLength 79 = .ok (.iinc 6 10, 3) := by decide +kernel
theorem dX8_bestLength_82 : decode cX8_bestLength 82 = .ok (.goto (-40), 3) := by decide +kernel
theorem dX8_bestLength_85 : decode cX8_bestLength 85 = .ok (.iload 4, 2) := by decide +kernel
theorem dX8_bestLength_87 : decode cX8_bestLength 87 = .ok (.ireturn, 1) := by decide +kernel
theorem dX8_bestSetting_0 : decode cX8_bestSetting 0 = .ok (.aload_n 0, 1) := by decide +kernel
theorem dX8_bestSetting_1 : decode cX8_bestSetting 1 = .ok (.getfield 10, 3) := by decide +kernel
theorem dX8_bestSetting_4 : decode cX8_bestSetting 4 = .ok (.iload_n 1, 1) := by decide +kernel
theorem dX8_bestSetting_5 : decode cX8_bestSetting 5 = .ok (.invokevirtual 72, 3) := by decide +kernel
theorem dX8_bestSetting_8 : decode cX8_bestSetting 8 = .ok (.astore_n 3, 1) := by decide +kernel
theorem dX8_bestSetting_9 : decode cX8_bestSetting 9 = .ok (.aload_n 3, 1) := by decide +kernel
theorem dX8_bestSetting_10 : decode cX8_bestSetting 10 = .ok (.ifnonnull 7, 3) := by decide +kernel
theorem dX8_bestSetting_13 : decode cX8_bestSetting 13 = .ok (.sipush (-1001), 3) := by decide +kernel
theorem dX8_bestSetting_16 : decode cX8_bestSetting 16 = .ok (.ireturn, 1) := by decide +kernel
theorem dX8_bestSetting_17 : decode cX8_bestSetting 17 = .ok (.iload_n 2, 1) := by decide +kernel
theorem dX8_bestSetting_18 : decode cX8_bestSetting 18 = .ok (.iconst 1, 1) := by decide +kernel
theorem dX8_bestSetting_19 : decode cX8_bestSetting 19 = .ok (.sipush 300, 3) := by decide +kernel
theorem dX8_bestSetting_22 : decode cX8_bestSetting 22 = .ok (.invokestatic 58, 3) := by decide +kernel
theorem dX8_bestSetting_25 : decode cX8_bestSetting 25 = .ok (.ifCond .eq 7, 3) := by decide +kernel
theorem dX8_bestSetting_28 : decode cX8_bestSetting 28 = .ok (.sipush (-1002), 3) := by decide +kernel
theorem dX8_bestSetting_31 : decode cX8_bestSetting 31 = .ok (.ireturn, 1) := by decide +kernel
theorem dX8_bestSetting_32 : decode cX8_bestSetting 32 = .ok (.iconst 0, 1) := by decide +kernel
theorem dX8_bestSetting_33 : decode cX8_bestSetting 33 = .ok (.istore 4, 2) := by decide +kernel
theorem dX8_bestSetting_35 : decode cX8_bestSetting 35 = .ok (.iconst (-1), 1) := by decide +kernel
theorem dX8_bestSetting_36 : decode cX8_bestSetting 36 = .ok (.istore 5, 2) := by decide +kernel
theorem dX8_bestSetting_38 : decode cX8_bestSetting 38 = .ok (.bipush 10, 2) := by decide +kernel
theorem dX8_bestSetting_40 : decode cX8_bestSetting 40 = .ok (.istore 6, 2) := by decide +kernel
theorem dX8_bestSetting_42 : decode cX8_bestSetting 42 = .ok (.iload 6, 2) := by decide +kernel
theorem dX8_bestSetting_44 : decode cX8_bestSetting 44 = .ok (.sipush 500, 3) := by decide +kernel
theorem dX8_bestSetting_47 : decode cX8_bestSetting 47 = .ok (.if_icmp .gt 38, 3) := by decide +kernel
theorem dX8_bestSetting_50 : decode cX8_bestSetting 50 = .ok (.aload_n 0, 1) := by decide +kernel
theorem dX8_bestSetting_51 : decode cX8_bestSetting 51 = .ok (.aload_n 3, 1) := by decide +kernel
theorem dX8_bestSetting_52 : decode cX8_bestSetting 52 = .ok (.aload_n 3, 1) := by decide +kernel
theorem dX8_bestSetting_53 : decode cX8_bestSetting 53 = .ok (.getfield 259, 3) := by decide +kernel
theorem dX8_bestSetting_56 : decode cX8_bestSetting 56 = .ok (.iload 6, 2) := by decide +kernel
theorem dX8_bestSetting_58 : decode cX8_bestSetting 58 = .ok (.iload_n 2, 1) := by decide +kernel
theorem dX8_bestSetting_59 : decode cX8_bestSetting 59 = .ok (.invokevirtual 255, 3) := by decide +kernel
theorem dX8_bestSetting_62 : decode cX8_bestSetting 62 = .ok (.istore 7, 2) := by decide +kernel
theorem dX8_bestSetting_64 : decode cX8_bestSetting 64 = .ok (.iload 7, 2) := by decide +kernel
theorem dX8_bestSetting_66 : decode cX8_bestSetting 66 = .ok (.iload 5, 2) := by decide +kernel
theorem dX8_bestSetting_68 : decode cX8_bestSetting 68 = .ok (.if_icmp .le 11, 3) := by decide +kernel
theorem dX8_bestSetting_71 : decode cX8_bestSetting 71 = .ok (.iload 7, 2) := by decide +kernel
theorem dX8_bestSetting_73 : decode cX8_bestSetting 73 = .ok (.istore 5, 2) := by decide +kernel
theorem dX8_bestSetting_75 : decode cX8_bestSetting 75 = .ok (.iload 6, 2) := by decide +kernel
theorem dX8_bestSetting_77 : decode cX8_bestSetting 77 = .ok (.istore 4, 2) := by decide +kernel
theorem dX8_bestSetting_79 : decode cX8_bestSetting 79 = .ok (.iinc 6 10, 3) := by decide +kernel
theorem dX8_bestSetting_82 : decode cX8_bestSetting 82 = .ok (.goto (-40), 3) := by decide +kernel
theorem dX8_bestSetting_85 : decode cX8_bestSetting 85 = .ok (.iload 4, 2) := by decide +kernel
theorem dX8_bestSetting_87 : decode cX8_bestSetting 87 = .ok (.ireturn, 1) := by decide +kernel
theorem dX8_outside_0 : decode cX8_outside 0 = .ok (.iload_n 0, 1) := by decide +kernel
theorem dX8_outside_1 : decode cX8_outside 1 = .ok (.iload_n 1, 1) := by decide +kernel
theorem dX8_outside_2 : decode cX8_outside 2 = .ok (.if_icmp .lt 8, 3) := by decide +kernel
theorem dX8_outside_5 : decode cX8_outside 5 = .ok (.iload_n 0, 1) := by decide +kernel
theorem dX8_outside_6 : decode cX8_outside 6 = .ok (.iload_n 2, 1) := by decide +kernel
theorem dX8_outside_7 : decode cX8_outside 7 = .ok (.if_icmp .le 7, 3) := by decide +kernel
theorem dX8_outside_10 : decode cX8_outside 10 = .ok (.iconst 1, 1) := by decide +kernel
theorem dX8_outside_11 : decode cX8_outside 11 = .ok (.goto 4, 3) := by decide +kernel
theorem dX8_outside_14 : decode cX8_outside 14 = .ok (.iconst 0, 1) := by decide +kernel
theorem dX8_outside_15 : decode cX8_outside 15 = .ok (.ireturn, 1) := by decide +kernel
theorem dX8_keepState_0 : decode cX8_keepState 0 = .ok (.aload_n 0, 1) := by decide +kernel
theorem dX8_keepState_1 : decode cX8_keepState 1 = .ok (.getfield 145, 3) := by decide +kernel
theorem dX8_keepState_4 : decode cX8_keepState 4 = .ok (.ifCond .eq 4, 3) := by decide +kernel
theorem dX8_keepState_7 : decode cX8_keepState 7 = .ok (.return_, 1) := by decide +kernel
theorem dX8_keepState_8 : decode cX8_keepState 8 = .ok (.aload_n 0, 1) := by decide +kernel
theorem dX8_keepState_9 : decode cX8_keepState 9 = .ok (.getfield 128, 3) := by decide +kernel
theorem dX8_keepState_12 : decode cX8_keepState 12 = .ok (.iconst 0, 1) := by decide +kernel
theorem dX8_keepState_13 : decode cX8_keepState 13 = .ok (.aload_n 0, 1) := by decide +kernel
theorem dX8_keepState_14 : decode cX8_keepState 14 = .ok (.getfield 16, 3) := by decide +kernel
theorem dX8_keepState_17 : decode cX8_keepState 17 = .ok (.arraylength, 1) := by decide +kernel
theorem dX8_keepState_18 : decode cX8_keepState 18 = .ok (.iconst 1, 1) := by decide +kernel
theorem dX8_keepState_19 : decode cX8_keepState 19 = .ok (.isub, 1) := by decide +kernel
theorem dX8_keepState_20 : decode cX8_keepState 20 = .ok (.invokestatic 58, 3) := by decide +kernel
theorem dX8_keepState_23 : decode cX8_keepState 23 = .ok (.ifCond .eq 8, 3) := by decide +kernel
theorem dX8_keepState_26 : decode cX8_keepState 26 = .ok (.aload_n 0, 1) := by decide +kernel
theorem dX8_keepState_27 : decode cX8_keepState 27 = .ok (.iconst 0, 1) := by decide +kernel
theorem dX8_keepState_28 : decode cX8_keepState 28 = .ok (.putfield 128, 3) := by decide +kernel
theorem dX8_keepState_31 : decode cX8_keepState 31 = .ok (.aload_n 0, 1) := by decide +kernel
theorem dX8_keepState_32 : decode cX8_keepState 32 = .ok (.getfield 16, 3) := by decide +kernel
theorem dX8_keepState_35 : decode cX8_keepState 35 = .ok (.aload_n 0, 1) := by decide +kernel
theorem dX8_keepState_36 : decode cX8_keepState 36 = .ok (.getfield 128, 3) := by decide +kernel
theorem dX8_keepState_39 : decode cX8_keepState 39 = .ok (.aaload, 1) := by decide +kernel
theorem dX8_keepState_40 : decode cX8_keepState 40 = .ok (.aload_n 0, 1) := by decide +kernel
theorem dX8_keepState_41 : decode cX8_keepState 41 = .ok (.getfield 10, 3) := by decide +kernel
theorem dX8_keepState_44 : decode cX8_keepState 44 = .ok (.invokevirtual 131, 3) := by decide +kernel
theorem dX8_keepState_47 : decode cX8_keepState 47 = .ok (.aload_n 0, 1) := by decide +kernel
theorem dX8_keepState_48 : decode cX8_keepState 48 = .ok (.dup, 1) := by decide +kernel
theorem dX8_keepState_49 : decode cX8_keepState 49 = .ok (.getfield 128, 3) := by decide +kernel
theorem dX8_keepState_52 : decode cX8_keepState 52 = .ok (.iconst 1, 1) := by decide +kernel
theorem dX8_keepState_53 : decode cX8_keepState 53 = .ok (.iadd, 1) := by decide +kernel
theorem dX8_keepState_54 : decode cX8_keepState 54 = .ok (.putfield 128, 3) := by decide +kernel
theorem dX8_keepState_57 : decode cX8_keepState 57 = .ok (.aload_n 0, 1) := by decide +kernel
theorem dX8_keepState_58 : decode cX8_keepState 58 = .ok (.getfield 125, 3) := by decide +kernel
theorem dX8_keepState_61 : decode cX8_keepState 61 = .ok (.aload_n 0, 1) := by decide +kernel
theorem dX8_keepState_62 : decode cX8_keepState 62 = .ok (.getfield 16, 3) := by decide +kernel
theorem dX8_keepState_65 : decode cX8_keepState 65 = .ok (.arraylength, 1) := by decide +kernel
theorem dX8_keepState_66 : decode cX8_keepState 66 = .ok (.if_icmp .ge 13, 3) := by decide +kernel
theorem dX8_keepState_69 : decode cX8_keepState 69 = .ok (.aload_n 0, 1) := by decide +kernel
theorem dX8_keepState_70 : decode cX8_keepState 70 = .ok (.dup, 1) := by decide +kernel
theorem dX8_keepState_71 : decode cX8_keepState 71 = .ok (.getfield 125, 3) := by decide +kernel
theorem dX8_keepState_74 : decode cX8_keepState 74 = .ok (.iconst 1, 1) := by decide +kernel
theorem dX8_keepState_75 : decode cX8_keepState 75 = .ok (.iadd, 1) := by decide +kernel
theorem dX8_keepState_76 : decode cX8_keepState 76 = .ok (.putfield 125, 3) := by decide +kernel
theorem dX8_keepState_79 : decode cX8_keepState 79 = .ok (.return_, 1) := by decide +kernel
theorem dX8_tickStation_0 : decode cX8_tickStation 0 = .ok (.aload_n 0, 1) := by decide +kernel
theorem dX8_tickStation_1 : decode cX8_tickStation 1 = .ok (.getfield 10, 3) := by decide +kernel
theorem dX8_tickStation_4 : decode cX8_tickStation 4 = .ok (.aload_n 0, 1) := by decide +kernel
theorem dX8_tickStation_5 : decode cX8_tickStation 5 = .ok (.getfield 10, 3) := by decide +kernel
theorem dX8_tickStation_8 : decode cX8_tickStation 8 = .ok (.getfield 103, 3) := by decide +kernel
theorem dX8_tickStation_11 : decode cX8_tickStation 11 = .ok (.invokevirtual 95, 3) := by decide +kernel
theorem dX8_tickStation_14 : decode cX8_tickStation 14 = .ok (.iconst 0, 1) := by decide +kernel
theorem dX8_tickStation_15 : decode cX8_tickStation 15 = .ok (.istore_n 1, 1) := by decide +kernel
theorem dX8_tickStation_16 : decode cX8_tickStation 16 = .ok (.iconst 0, 1) := by decide +kernel
theorem dX8_tickStation_17 : decode cX8_tickStation 17 = .ok (.istore_n 2, 1) := by decide +kernel
theorem dX8_tickStation_18 : decode cX8_tickStation 18 = .ok (.iload_n 2, 1) := by decide +kernel
theorem dX8_tickStation_19 : decode cX8_tickStation 19 = .ok (.aload_n 0, 1) := by decide +kernel
theorem dX8_tickStation_20 : decode cX8_tickStation 20 = .ok (.getfield 10, 3) := by decide +kernel
theorem dX8_tickStation_23 : decode cX8_tickStation 23 = .ok (.getfield 62, 3) := by decide +kernel
theorem dX8_tickStation_26 : decode cX8_tickStation 26 = .ok (.if_icmp .ge 85, 3) := by decide +kernel
theorem dX8_tickStation_29 : decode cX8_tickStation 29 = .ok (.aload_n 0, 1) := by decide +kernel
theorem dX8_tickStation_30 : decode cX8_tickStation 30 = .ok (.getfield 10, 3) := by decide +kernel
theorem dX8_tickStation_33 : decode cX8_tickStation 33 = .ok (.iload_n 2, 1) := by decide +kernel
theorem dX8_tickStation_34 : decode cX8_tickStation 34 = .ok (.invokevirtual 72, 3) := by decide +kernel
theorem dX8_tickStation_37 : decode cX8_tickStation 37 = .ok (.astore_n 3, 1) := by decide +kernel
theorem dX8_tickStation_38 : decode cX8_tickStation 38 = .ok (.aload_n 3, 1) := by decide +kernel
theorem dX8_tickStation_39 : decode cX8_tickStation 39 = .ok (.ifnull 66, 3) := by decide +kernel
theorem dX8_tickStation_42 : decode cX8_tickStation 42 = .ok (.aload_n 3, 1) := by decide +kernel
theorem dX8_tickStation_43 : decode cX8_tickStation 43 = .ok (.getfield 76, 3) := by decide +kernel
theorem dX8_tickStation_46 : decode cX8_tickStation 46 = .ok (.ifCond .eq 59, 3) := by decide +kernel
theorem dX8_tickStation_49 : decode cX8_tickStation 49 = .ok (.aload_n 3, 1) := by decide +kernel
theorem dX8_tickStation_50 : decode cX8_tickStation 50 = .ok (.aload_n 0, 1) := by decide +kernel
theorem dX8_tickStation_51 : decode cX8_tickStation 51 = .ok (.getfield 10, 3) := by decide +kernel
theorem dX8_tickStation_54 : decode cX8_tickStation 54 = .ok (.getfield 156, 3) := by decide +kernel
theorem dX8_tickStation_57 : decode cX8_tickStation 57 = .ok (.aload_n 0, 1) := by decide +kernel
theorem dX8_tickStation_58 : decode cX8_tickStation 58 = .ok (.getfield 10, 3) := by decide +kernel
theorem dX8_tickStation_61 : decode cX8_tickStation 61 = .ok (.getfield 106, 3) := by decide +kernel
theorem dX8_tickStation_64 : decode cX8_tickStation 64 = .ok (.aload_n 0, 1) := by decide +kernel
theorem dX8_tickStation_65 : decode cX8_tickStation 65 = .ok (.getfield 41, 3) := by decide +kernel
theorem dX8_tickStation_68 : decode cX8_tickStation 68 = .ok (.invokevirtual 262, 3) := by decide +kernel
theorem dX8_tickStation_71 : decode cX8_tickStation 71 = .ok (.aload_n 0, 1) := by decide +kernel
theorem dX8_tickStation_72 : decode cX8_tickStation 72 = .ok (.getfield 10, 3) := by decide +kernel
theorem dX8_tickStation_75 : decode cX8_tickStation 75 = .ok (.dup, 1) := by decide +kernel
theorem dX8_tickStation_76 : decode cX8_tickStation 76 = .ok (.getfield 156, 3) := by decide +kernel
theorem dX8_tickStation_79 : decode cX8_tickStation 79 = .ok (.aload_n 0, 1) := by decide +kernel
theorem dX8_tickStation_80 : decode cX8_tickStation 80 = .ok (.getfield 41, 3) := by decide +kernel
theorem dX8_tickStation_83 : decode cX8_tickStation 83 = .ok (.getfield 243, 3) := by decide +kernel
theorem dX8_tickStation_86 : decode cX8_tickStation 86 = .ok (.isub, 1) := by decide +kernel
theorem dX8_tickStation_87 : decode cX8_tickStation 87 = .ok (.putfield 156, 3) := by decide +kernel
theorem dX8_tickStation_90 : decode cX8_tickStation 90 = .ok (.iload_n 1, 1) := by decide +kernel
theorem dX8_tickStation_91 : decode cX8_tickStation 91 = .ok (.aload_n 0, 1) := by decide +kernel
theorem dX8_tickStation_92 : decode cX8_tickStation 92 = .ok (.getfield 41, 3) := by decide +kernel
theorem dX8_tickStation_95 : decode cX8_tickStation 95 = .ok (.getfield 266, 3) := by decide +kernel
theorem dX8_tickStation_98 : decode cX8_tickStation 98 = .ok (.iadd, 1) := by decide +kernel
theorem dX8_tickStation_99 : decode cX8_tickStation 99 = .ok (.istore_n 1, 1) := by decide +kernel
theorem dX8_tickStation_100 : decode cX8_tickStation 100 = .ok (.aload_n 0, 1) := by decide +kernel
theorem dX8_tickStation_101 : decode cX8_tickStation 101 = .ok (.iload_n 2, 1) := by decide +kernel
theorem dX8_tickStation_102 : decode cX8_tickStation 102 = .ok (.invokevirtual 269, 3) := by decide +kernel
theorem dX8_tickStation_105 : decode cX8_tickStation 105 = .ok (.iinc 2 1, 3) := by decide +kernel
theorem dX8_tickStation_108 : decode cX8_tickStation 108 = .ok (.goto (-90), 3) := by decide +kernel
theorem dX8_tickStation_111 : decode cX8_tickStation 111 = .ok (.aload_n 0, 1) := by decide +kernel
theorem dX8_tickStation_112 : decode cX8_tickStation 112 = .ok (.getfield 10, 3) := by decide +kernel
theorem dX8_tickStation_115 : decode cX8_tickStation 115 = .ok (.dup, 1) := by decide +kernel
theorem dX8_tickStation_116 : decode cX8_tickStation 116 = .ok (.getfield 106, 3) := by decide +kernel
theorem dX8_tickStation_119 : decode cX8_tickStation 119 = .ok (.iconst 1, 1) := by decide +kernel
theorem dX8_tickStation_120 : decode cX8_tickStation 120 = .ok (.iadd, 1) := by decide +kernel
theorem dX8_tickStation_121 : decode cX8_tickStation 121 = .ok (.putfield 106, 3) := by decide +kernel
theorem dX8_tickStation_124 : decode cX8_tickStation 124 = .ok (.iload_n 1, 1) := by decide +kernel
theorem dX8_tickStation_125 : decode cX8_tickStation 125 = .ok (.ireturn, 1) := by decide +kernel
theorem dX8_noteIncidents_0 : decode cX8_noteIncidents 0 = .ok (.aload_n 0, 1) := by decide +kernel
theorem dX8_noteIncidents_1 : decode cX8_noteIncidents 1 = .ok (.getfield 41, 3) := by decide +kernel
theorem dX8_noteIncidents_4 : decode cX8_noteIncidents 4 = .ok (.getfield 272, 3) := by decide +kernel
theorem dX8_noteIncidents_7 : decode cX8_noteIncidents 7 = .ok (.ifCond .eq 25, 3) := by decide +kernel
theorem dX8_noteIncidents_10 : decode cX8_noteIncidents 10 = .ok (.aload_n 0, 1) := by decide +kernel
theorem dX8_noteIncidents_11 : decode cX8_noteIncidents 11 = .ok (.getfield 34, 3) := by decide +kernel
theorem dX8_noteIncidents_14 : decode cX8_noteIncidents 14 = .ok (.aload_n 0, 1) := by decide +kernel
theorem dX8_noteIncidents_15 : decode cX8_noteIncidents 15 = .ok (.getfield 41, 3) := by decide +kernel
theorem dX8_noteIncidents_18 : decode cX8_noteIncidents 18 = .ok (.getfield 272, 3) := by decide +kernel
theorem dX8_noteIncidents_21 : decode cX8_noteIncidents 21 = .ok (.iload_n 1, 1) := by decide +kernel
theorem dX8_noteIncidents_22 : decode cX8_noteIncidents 22 = .ok (.aload_n 0, 1) := by decide +kernel
theorem dX8_noteIncidents_23 : decode cX8_noteIncidents 23 = .ok (.getfield 10, 3) := by decide +kernel
theorem dX8_noteIncidents_26 : decode cX8_noteIncidents 26 = .ok (.getfield 106, 3) := by decide +kernel
theorem dX8_noteIncidents_29 : decode cX8_noteIncidents 29 = .ok (.invokevirtual 275, 3) := by decide +kernel
theorem dX8_noteIncidents_32 : decode cX8_noteIncidents 32 = .ok (.aload_n 0, 1) := by decide +kernel
theorem dX8_noteIncidents_33 : decode cX8_noteIncidents 33 = .ok (.getfield 41, 3) := by decide +kernel
theorem dX8_noteIncidents_36 : decode cX8_noteIncidents 36 = .ok (.getfield 279, 3) := by decide +kernel
theorem dX8_noteIncidents_39 : decode cX8_noteIncidents 39 = .ok (.ifCond .eq 19, 3) := by decide +kernel
theorem dX8_noteIncidents_42 : decode cX8_noteIncidents 42 = .ok (.aload_n 0, 1) := by decide +kernel
theorem dX8_noteIncidents_43 : decode cX8_noteIncidents 43 = .ok (.getfield 34, 3) := by decide +kernel
theorem dX8_noteIncidents_46 : decode cX8_noteIncidents 46 = .ok (.iconst 3, 1) := by decide +kernel
theorem dX8_noteIncidents_47 : decode cX8_noteIncidents 47 = .ok (.iload_n 1, 1) := by decide +kernel
theorem dX8_noteIncidents_48 : decode cX8_noteIncidents 48 = .ok (.aload_n 0, 1) := by decide +kernel
theorem dX8_noteIncidents_49 : decode cX8_noteIncidents 49 = .ok (.getfield 10, 3) := by decide +kernel
theorem dX8_noteIncidents_52 : decode cX8_noteIncidents 52 = .ok (.getfield 106, 3) := by decide +kernel
theorem dX8_noteIncidents_55 : decode cX8_noteIncidents 55 = .ok (.invokevirtual 275, 3) := by decide +kernel
theorem dX8_noteIncidents_58 : decode cX8_noteIncidents 58 = .ok (.return_, 1) := by decide +kernel
theorem dX8_perform_0 : decode cX8_perform 0 = .ok (.aload_n 0, 1) := by decide +kernel
theorem dX8_perform_1 : decode cX8_perform 1 = .ok (.getfield 27, 3) := by decide +kernel
theorem dX8_perform_4 : decode cX8_perform 4 = .ok (.iload_n 1, 1) := by decide +kernel
theorem dX8_perform_5 : decode cX8_perform 5 = .ok (.iconst 1, 1) := by decide +kernel
theorem dX8_perform_6 : decode cX8_perform 6 = .ok (.iadd, 1) := by decide +kernel
theorem dX8_perform_7 : decode cX8_perform 7 = .ok (.invokevirtual 282, 3) := by decide +kernel
theorem dX8_perform_10 : decode cX8_perform 10 = .ok (.istore_n 2, 1) := by decide +kernel
theorem dX8_perform_11 : decode cX8_perform 11 = .ok (.aload_n 0, 1) := by decide +kernel
theorem dX8_perform_12 : decode cX8_perform 12 = .ok (.getfield 27, 3) := by decide +kernel
theorem dX8_perform_15 : decode cX8_perform 15 = .ok (.iload_n 1, 1) := by decide +kernel
theorem dX8_perform_16 : decode cX8_perform 16 = .ok (.invokevirtual 285, 3) := by decide +kernel
theorem dX8_perform_19 : decode cX8_perform 19 = .ok (.tableswitch 118 101 115 #[85, 118, 118, 79, 112, 118, 118, 118, 118, 118, 118, 118, 118, 73, 91], 73) := by decide +kernel
theorem dX8_perform_92 : decode cX8_perform 92 = .ok (.aload_n 0, 1) := by decide +kernel
theorem dX8_perform_93 : decode cX8_perform 93 = .ok (.iload_n 2, 1) := by decide +kernel
theorem dX8_perform_94 : decode cX8_perform 94 = .ok (.invokevirtual 289, 3) := by decide +kernel
theorem dX8_perform_97 : decode cX8_perform 97 = .ok (.ireturn, 1) := by decide +kernel
theorem dX8_perform_98 : decode cX8_perform 98 = .ok (.aload_n 0, 1) := by decide +kernel
theorem dX8_perform_99 : decode cX8_perform 99 = .ok (.iload_n 2, 1) := by decide +kernel
theorem dX8_perform_100 : decode cX8_perform 100 = .ok (.invokevirtual 292, 3) := by decide +kernel
theorem dX8_perform_103 : decode cX8_perform 103 = .ok (.ireturn, 1) := by decide +kernel
theorem dX8_perform_104 : decode cX8_perform 104 = .ok (.aload_n 0, 1) := by decide +kernel
theorem dX8_perform_105 : decode cX8_perform 105 = .ok (.iload_n 2, 1) := by decide +kernel
theorem dX8_perform_106 : decode cX8_perform 106 = .ok (.invokevirtual 295, 3) := by decide +kernel
theorem dX8_perform_109 : decode cX8_perform 109 = .ok (.ireturn, 1) := by decide +kernel
theorem dX8_perform_110 : decode cX8_perform 110 = .ok (.aload_n 0, 1) := by decide +kernel
theorem dX8_perform_111 : decode cX8_perform 111 = .ok (.iload_n 2, 1) := by decide +kernel
theorem dX8_perform_112 : decode cX8_perform 112 = .ok (.aload_n 0, 1) := by decide +kernel
theorem dX8_perform_113 : decode cX8_perform 113 = .ok (.iload_n 2, 1) := by decide +kernel
theorem dX8_perform_114 : decode cX8_perform 114 = .ok (.invokevirtual 298, 3) := by decide +kernel
theorem dX8_perform_117 : decode cX8_perform 117 = .ok (.aload_n 0, 1) := by decide +kernel
theorem dX8_perform_118 : decode cX8_perform 118 = .ok (.getfield 27, 3) := by decide +kernel
theorem dX8_perform_121 : decode cX8_perform 121 = .ok (.iload_n 1, 1) := by decide +kernel
theorem dX8_perform_122 : decode cX8_perform 122 = .ok (.iconst 3, 1) := by decide +kernel
theorem dX8_perform_123 : decode cX8_perform 123 = .ok (.iadd, 1) := by decide +kernel
theorem dX8_perform_124 : decode cX8_perform 124 = .ok (.invokevirtual 282, 3) := by decide +kernel
theorem dX8_perform_127 : decode cX8_perform 127 = .ok (.invokevirtual 301, 3) := by decide +kernel
theorem dX8_perform_130 : decode cX8_perform 130 = .ok (.ireturn, 1) := by decide +kernel
theorem dX8_perform_131 : decode cX8_perform 131 = .ok (.aload_n 0, 1) := by decide +kernel
theorem dX8_perform_132 : decode cX8_perform 132 = .ok (.iload_n 2, 1) := by decide +kernel
theorem dX8_perform_133 : decode cX8_perform 133 = .ok (.invokevirtual 305, 3) := by decide +kernel
theorem dX8_perform_136 : decode cX8_perform 136 = .ok (.ireturn, 1) := by decide +kernel
theorem dX8_perform_137 : decode cX8_perform 137 = .ok (.aload_n 0, 1) := by decide +kernel
theorem dX8_perform_138 : decode cX8_perform 138 = .ok (.iload_n 2, 1) := by decide +kernel
theorem dX8_perform_139 : decode cX8_perform 139 = .ok (.invokevirtual 308, 3) := by decide +kernel
theorem dX8_perform_142 : decode cX8_perform 142 = .ok (.ireturn, 1) := by decide +kernel
theorem dX8_valveKindOf_0 : decode cX8_valveKindOf 0 = .ok (.aload_n 0, 1) := by decide +kernel
theorem dX8_valveKindOf_1 : decode cX8_valveKindOf 1 = .ok (.getfield 10, 3) := by decide +kernel
theorem dX8_valveKindOf_4 : decode cX8_valveKindOf 4 = .ok (.iload_n 1, 1) := by decide +kernel
theorem dX8_valveKindOf_5 : decode cX8_valveKindOf 5 = .ok (.invokevirtual 72, 3) := by decide +kernel
theorem dX8_valveKindOf_8 : decode cX8_valveKindOf 8 = .ok (.astore_n 2, 1) := by decide +kernel
theorem dX8_valveKindOf_9 : decode cX8_valveKindOf 9 = .ok (.aload_n 2, 1) := by decide +kernel
theorem dX8_valveKindOf_10 : decode cX8_valveKindOf 10 = .ok (.ifnonnull 7, 3) := by decide +kernel
theorem dX8_valveKindOf_13 : decode cX8_valveKindOf 13 = .ok (.iconst 0, 1) := by decide +kernel
theorem dX8_valveKindOf_14 : decode cX8_valveKindOf 14 = .ok (.goto 7, 3) := by decide +kernel
theorem dX8_valveKindOf_17 : decode cX8_valveKindOf 17 = .ok (.aload_n 2, 1) := by decide +kernel
theorem dX8_valveKindOf_18 : decode cX8_valveKindOf 18 = .ok (.getfield 83, 3) := by decide +kernel
theorem dX8_valveKindOf_21 : decode cX8_valveKindOf 21 = .ok (.ireturn, 1) := by decide +kernel
theorem dX8_tickTrial_0 : decode cX8_tickTrial 0 = .ok (.aload_n 0, 1) := by decide +kernel
theorem dX8_tickTrial_1 : decode cX8_tickTrial 1 = .ok (.getfield 50, 3) := by decide +kernel
theorem dX8_tickTrial_4 : decode cX8_tickTrial 4 = .ok (.ldc_w 311, 3) := by decide +kernel
theorem dX8_tickTrial_7 : decode cX8_tickTrial 7 = .ok (.aload_n 0, 1) := by decide +kernel
theorem dX8_tickTrial_8 : decode cX8_tickTrial 8 = .ok (.getfield 10, 3) := by decide +kernel
theorem dX8_tickTrial_11 : decode cX8_tickTrial 11 = .ok (.getfield 106, 3) := by decide +kernel
theorem dX8_tickTrial_14 : decode cX8_tickTrial 14 = .ok (.aload_n 0, 1) := by decide +kernel
theorem dX8_tickTrial_15 : decode cX8_tickTrial 15 = .ok (.getfield 41, 3) := by decide +kernel
theorem dX8_tickTrial_18 : decode cX8_tickTrial 18 = .ok (.invokevirtual 262, 3) := by decide +kernel
theorem dX8_tickTrial_21 : decode cX8_tickTrial 21 = .ok (.return_, 1) := by decide +kernel
theorem dX8_trialDelivery_0 : decode cX8_trialDelivery 0 = .ok (.iconst 0, 1) := by decide +kernel
theorem dX8_trialDelivery_1 : decode cX8_trialDelivery 1 = .ok (.istore_n 2, 1) := by decide +kernel
theorem dX8_trialDelivery_2 : decode cX8_trialDelivery 2 = .ok (.iconst 0, 1) := by decide +kernel
theorem dX8_trialDelivery_3 : decode cX8_trialDelivery 3 = .ok (.istore_n 3, 1) := by decide +kernel
theorem dX8_trialDelivery_4 : decode cX8_trialDelivery 4 = .ok (.iload_n 3, 1) := by decide +kernel
theorem dX8_trialDelivery_5 : decode cX8_trialDelivery 5 = .ok (.iload_n 1, 1) := by decide +kernel
theorem dX8_trialDelivery_6 : decode cX8_trialDelivery 6 = .ok (.if_icmp .ge 23, 3) := by decide +kernel
theorem dX8_trialDelivery_9 : decode cX8_trialDelivery 9 = .ok (.aload_n 0, 1) := by decide +kernel
theorem dX8_trialDelivery_10 : decode cX8_trialDelivery 10 = .ok (.invokevirtual 234, 3) := by decide +kernel
theorem dX8_trialDelivery_13 : decode cX8_trialDelivery 13 = .ok (.iload_n 2, 1) := by decide +kernel
theorem dX8_trialDelivery_14 : decode cX8_trialDelivery 14 = .ok (.aload_n 0, 1) := by decide +kernel
theorem dX8_trialDelivery_15 : decode cX8_trialDelivery 15 = .ok (.getfield 41, 3) := by decide +kernel
theorem dX8_trialDelivery_18 : decode cX8_trialDelivery 18 = .ok (.getfield 266, 3) := by decide +kernel
theorem dX8_trialDelivery_21 : decode cX8_trialDelivery 21 = .ok (.iadd, 1) := by decide +kernel
theorem dX8_trialDelivery_22 : decode cX8_trialDelivery 22 = .ok (.istore_n 2, 1) := by decide +kernel
theorem dX8_trialDelivery_23 : decode cX8_trialDelivery 23 = .ok (.iinc 3 1, 3) := by decide +kernel
theorem dX8_trialDelivery_26 : decode cX8_trialDelivery 26 = .ok (.goto (-22), 3) := by decide +kernel
theorem dX8_trialDelivery_29 : decode cX8_trialDelivery 29 = .ok (.iload_n 2, 1) := by decide +kernel
theorem dX8_trialDelivery_30 : decode cX8_trialDelivery 30 = .ok (.ireturn, 1) := by decide +kernel
theorem dX8_deliveryFromRest_0 : decode cX8_deliveryFromRest 0 = .ok (.aload_n 0, 1) := by decide +kernel
theorem dX8_deliveryFromRest_1 : decode cX8_deliveryFromRest 1 = .ok (.getfield 50, 3) := by decide +kernel
theorem dX8_deliveryFromRest_4 : decode cX8_deliveryFromRest 4 = .ok (.aload_n 1, 1) := by decide +kernel
theorem dX8_deliveryFromRest_5 : decode cX8_deliveryFromRest 5 = .ok (.invokevirtual 231, 3) := by decide +kernel
theorem dX8_deliveryFromRest_8 : decode cX8_deliveryFromRest 8 = .ok (.aload_n 0, 1) := by decide +kernel
theorem dX8_deliveryFromRest_9 : decode cX8_deliveryFromRest 9 = .ok (.getfield 50, 3) := by decide +kernel
theorem dX8_deliveryFromRest_12 : decode cX8_deliveryFromRest 12 = .ok (.invokevirtual 116, 3) := by decide +kernel
theorem dX8_deliveryFromRest_15 : decode cX8_deliveryFromRest 15 = .ok (.aload_n 0, 1) := by decide +kernel
theorem dX8_deliveryFromRest_16 : decode cX8_deliveryFromRest 16 = .ok (.getfield 50, 3) := by decide +kernel
theorem dX8_deliveryFromRest_19 : decode cX8_deliveryFromRest 19 = .ok (.iload_n 2, 1) := by decide +kernel
theorem dX8_deliveryFromRest_20 : decode cX8_deliveryFromRest 20 = .ok (.putfield 259, 3) := by decide +kernel
theorem dX8_deliveryFromRest_23 : decode cX8_deliveryFromRest 23 = .ok (.aload_n 0, 1) := by decide +kernel
theorem dX8_deliveryFromRest_24 : decode cX8_deliveryFromRest 24 = .ok (.getfield 50, 3) := by decide +kernel
theorem dX8_deliveryFromRest_27 : decode cX8_deliveryFromRest 27 = .ok (.iload_n 3, 1) := by decide +kernel
theorem dX8_deliveryFromRest_28 : decode cX8_deliveryFromRest 28 = .ok (.putfield 80, 3) := by decide +kernel
theorem dX8_deliveryFromRest_31 : decode cX8_deliveryFromRest 31 = .ok (.aload_n 0, 1) := by decide +kernel
theorem dX8_deliveryFromRest_32 : decode cX8_deliveryFromRest 32 = .ok (.iload 4, 2) := by decide +kernel
theorem dX8_deliveryFromRest_34 : decode cX8_deliveryFromRest 34 = .ok (.invokevirtual 240, 3) := by decide +kernel
theorem dX8_deliveryFromRest_37 : decode cX8_deliveryFromRest 37 = .ok (.ireturn, 1) := by decide +kernel
theorem dX8_ticksFromSlamLikeLast_0 : decode cX8_ticksFromSlamLikeLast 0 = .ok (.iconst (-1), 1) := by decide +kernel
theorem dX8_ticksFromSlamLikeLast_1 : decode cX8_ticksFromSlamLikeLast 1 = .ok (.istore_n 1, 1) := by decide +kernel
theorem dX8_ticksFromSlamLikeLast_2 : decode cX8_ticksFromSlamLikeLast 2 = .ok (.ldc2_w 250, 3) := by decide +kernel
theorem dX8_ticksFromSlamLikeLast_5 : decode cX8_ticksFromSlamLikeLast 5 = .ok (.lstore_n 2, 1) := by decide +kernel
theorem dX8_ticksFromSlamLikeLast_6 : decode cX8_ticksFromSlamLikeLast 6 = .ok (.aload_n 0, 1) := by decide +kernel
theorem dX8_ticksFromSlamLikeLast_7 : decode cX8_ticksFromSlamLikeLast 7 = .ok (.getfield 54, 3) := by decide +kernel
theorem dX8_ticksFromSlamLikeLast_10 : decode cX8_ticksFromSlamLikeLast 10 = .ok (.arraylength, 1) := by decide +kernel
theorem dX8_ticksFromSlamLikeLast_11 : decode cX8_ticksFromSlamLikeLast 11 = .ok (.iconst 1, 1) := by decide +kernel
theorem dX8_ticksFromSlamLikeLast_12 : decode cX8_ticksFromSlamLikeLast 12 = .ok (.isub, 1) := by decide +kernel
theorem dX8_ticksFromSlamLikeLast_13 : decode cX8_ticksFromSlamLikeLast 13 = .ok (.istore 4, 2) := by decide +kernel
theorem dX8_ticksFromSlamLikeLast_15 : decode cX8_ticksFromSlamLikeLast 15 = .ok (.iload 4, 2) := by decide +kernel
theorem dX8_ticksFromSlamLikeLast_17 : decode cX8_ticksFromSlamLikeLast 17 = .ok (.ifCond .lt 58, 3) := by decide +kernel
theorem dX8_ticksFromSlamLikeLast_20 : decode cX8_ticksFromSlamLikeLast 20 = .ok (.aload_n 0, 1) := by decide +kernel
theorem dX8_ticksFromSlamLikeLast_21 : decode cX8_ticksFromSlamLikeLast 21 = .ok (.getfield 54, 3) := by decide +kernel
theorem dX8_ticksFromSlamLikeLast_24 : decode cX8_ticksFromSlamLikeLast 24 = .ok (.iload 4, 2) := by decide +kernel
theorem dX8_ticksFromSlamLikeLast_26 : decode cX8_ticksFromSlamLikeLast 26 = .ok (.laload, 1) := by decide +kernel
theorem dX8_ticksFromSlamLikeLast_27 : decode cX8_ticksFromSlamLikeLast 27 = .ok (.lstore 5, 2) := by decide +kernel
theorem dX8_ticksFromSlamLikeLast_29 : decode cX8_ticksFromSlamLikeLast 29 = .ok (.lload 5, 2) := by decide +kernel
theorem dX8_ticksFromSlamLikeLast_31 : decode cX8_ticksFromSlamLikeLast 31 = .ok (.ldc2_w 250, 3) := by decide +kernel
theorem dX8_ticksFromSlamLikeLast_34 : decode cX8_ticksFromSlamLikeLast 34 = .ok (.lcmp, 1) := by decide +kernel
theorem dX8_ticksFromSlamLikeLast_35 : decode cX8_ticksFromSlamLikeLast 35 = .ok (.ifCond .eq 15, 3) := by decide +kernel
theorem dX8_ticksFromSlamLikeLast_38 : decode cX8_ticksFromSlamLikeLast 38 = .ok (.lload 5, 2) := by decide +kernel
theorem dX8_ticksFromSlamLikeLast_40 : decode cX8_ticksFromSlamLikeLast 40 = .ok (.lload_n 2, 1) := by decide +kernel
theorem dX8_ticksFromSlamLikeLast_41 : decode cX8_ticksFromSlamLikeLast 41 = .ok (.lcmp, 1) := by decide +kernel
theorem dX8_ticksFromSlamLikeLast_42 : decode cX8_ticksFromSlamLikeLast 42 = .ok (.ifCond .ne 8, 3) := by decide +kernel
theorem dX8_ticksFromSlamLikeLast_45 : decode cX8_ticksFromSlamLikeLast 45 = .ok (.iload_n 1, 1) := by decide +kernel
theorem dX8_ticksFromSlamLikeLast_46 : decode cX8_ticksFromSlamLikeLast 46 = .ok (.iload 4, 2) := by decide +kernel
theorem dX8_ticksFromSlamLikeLast_48 : decode cX8_ticksFromSlamLikeLast 48 = .ok (.isub, 1) := by decide +kernel
theorem dX8_ticksFromSlamLikeLast_49 : decode cX8_ticksFromSlamLikeLast 49 = .ok (.ireturn, 1) := by decide +kernel
theorem dX8_ticksFromSlamLikeLast_50 : decode cX8_ticksFromSlamLikeLast 50 = .ok (.lload 5, 2) := by decide +kernel
theorem dX8_ticksFromSlamLikeLast_52 : decode cX8_ticksFromSlamLikeLast 52 = .ok (.ldc2_w 250, 3) := by decide +kernel
theorem dX8_ticksFromSlamLikeLast_55 : decode cX8_ticksFromSlamLikeLast 55 = .ok (.lcmp, 1) := by decide +kernel
theorem dX8_ticksFromSlamLikeLast_56 : decode cX8_ticksFromSlamLikeLast 56 = .ok (.ifCond .eq 13, 3) := by decide +kernel
theorem dX8_ticksFromSlamLikeLast_59 : decode cX8_ticksFromSlamLikeLast 59 = .ok (.iload_n 1, 1) := by decide +kernel
theorem dX8_ticksFromSlamLikeLast_60 : decode cX8_ticksFromSlamLikeLast 60 = .ok (.ifCond .ge 9, 3) := by decide +kernel
theorem dX8_ticksFromSlamLikeLast_63 : decode cX8_ticksFromSlamLikeLast 63 = .ok (.iload 4, 2) := by decide +kernel
theorem dX8_ticksFromSlamLikeLast_65 : decode cX8_ticksFromSlamLikeLast 65 = .ok (.istore_n 1, 1) := by decide +kernel
theorem dX8_ticksFromSlamLikeLast_66 : decode cX8_ticksFromSlamLikeLast 66 = .ok (.lload 5, 2) := by decide +kernel
theorem dX8_ticksFromSlamLikeLast_68 : decode cX8_ticksFromSlamLikeLast 68 = .ok (.lstore_n 2, 1) := by decide +kernel
theorem dX8_ticksFromSlamLikeLast_69 : decode cX8_ticksFromSlamLikeLast 69 = .ok (.iinc 4 (-1), 3) := by decide +kernel
theorem dX8_ticksFromSlamLikeLast_72 : decode cX8_ticksFromSlamLikeLast 72 = .ok (.goto (-57), 3) := by decide +kernel
theorem dX8_ticksFromSlamLikeLast_75 : decode cX8_ticksFromSlamLikeLast 75 = .ok (.sipush (-1005), 3) := by decide +kernel
theorem dX8_ticksFromSlamLikeLast_78 : decode cX8_ticksFromSlamLikeLast 78 = .ok (.ireturn, 1) := by decide +kernel
theorem dX9_init_0 : decode cX9_init 0 = .ok (.aload_n 0, 1) := by decide +kernel
theorem dX9_init_1 : decode cX9_init 1 = .ok (.invokespecial 1, 3) := by decide +kernel
theorem dX9_init_4 : decode cX9_init 4 = .ok (.aload_n 0, 1) := by decide +kernel
theorem dX9_init_5 : decode cX9_init 5 = .ok (.sipush 370, 3) := by decide +kernel
theorem dX9_init_8 : decode cX9_init 8 = .ok (.newarray .int, 2) := by decide +kernel
theorem dX9_init_10 : decode cX9_init 10 = .ok (.putfield 7, 3) := by decide +kernel
theorem dX9_init_13 : decode cX9_init 13 = .ok (.aload_n 0, 1) := by decide +kernel
theorem dX9_init_14 : decode cX9_init 14 = .ok (.sipush 2376, 3) := by decide +kernel
theorem dX9_init_17 : decode cX9_init 17 = .ok (.newarray .int, 2) := by decide +kernel
theorem dX9_init_19 : decode cX9_init 19 = .ok (.putfield 13, 3) := by decide +kernel
theorem dX9_init_22 : decode cX9_init 22 = .ok (.aload_n 0, 1) := by decide +kernel
theorem dX9_init_23 : decode cX9_init 23 = .ok (.bipush 20, 2) := by decide +kernel
theorem dX9_init_25 : decode cX9_init 25 = .ok (.newarray .int, 2) := by decide +kernel
theorem dX9_init_27 : decode cX9_init 27 = .ok (.putfield 16, 3) := by decide +kernel
theorem dX9_init_30 : decode cX9_init 30 = .ok (.aload_n 0, 1) := by decide +kernel
theorem dX9_init_31 : decode cX9_init 31 = .ok (.bipush 20, 2) := by decide +kernel
theorem dX9_init_33 : decode cX9_init 33 = .ok (.newarray .int, 2) := by decide +kernel
theorem dX9_init_35 : decode cX9_init 35 = .ok (.putfield 19, 3) := by decide +kernel
theorem dX9_init_38 : decode cX9_init 38 = .ok (.aload_n 0, 1) := by decide +kernel
theorem dX9_init_39 : decode cX9_init 39 = .ok (.bipush 20, 2) := by decide +kernel
theorem dX9_init_41 : decode cX9_init 41 = .ok (.newarray .int, 2) := by decide +kernel
theorem dX9_init_43 : decode cX9_init 43 = .ok (.putfield 22, 3) := by decide +kernel
theorem dX9_init_46 : decode cX9_init 46 = .ok (.aload_n 0, 1) := by decide +kernel
theorem dX9_init_47 : decode cX9_init 47 = .ok (.bipush 40, 2) := by decide +kernel
theorem dX9_init_49 : decode cX9_init 49 = .ok (.newarray .int, 2) := by decide +kernel
theorem dX9_init_51 : decode cX9_init 51 = .ok (.putfield 25, 3) := by decide +kernel
theorem dX9_init_54 : decode cX9_init 54 = .ok (.aload_n 0, 1) := by decide +kernel
theorem dX9_init_55 : decode cX9_init 55 = .ok (.sipush (-1005), 3) := by decide +kernel
theorem dX9_init_58 : decode cX9_init 58 = .ok (.putfield 28, 3) := by decide +kernel
theorem dX9_init_61 : decode cX9_init 61 = .ok (.aload_n 0, 1) := by decide +kernel
theorem dX9_init_62 : decode cX9_init 62 = .ok (.sipush 8000, 3) := by decide +kernel
theorem dX9_init_65 : decode cX9_init 65 = .ok (.newarray .int, 2) := by decide +kernel
theorem dX9_init_67 : decode cX9_init 67 = .ok (.putfield 32, 3) := by decide +kernel
theorem dX9_init_70 : decode cX9_init 70 = .ok (.aload_n 0, 1) := by decide +kernel
theorem dX9_init_71 : decode cX9_init 71 = .ok (.getfield 7, 3) := by decide +kernel
theorem dX9_init_74 : decode cX9_init 74 = .ok (.iconst 0, 1) := by decide +kernel
theorem dX9_init_75 : decode cX9_init 75 = .ok (.sipush 5000, 3) := by decide +kernel
theorem dX9_init_78 : decode cX9_init 78 = .ok (.iastore, 1) := by decide +kernel
theorem dX9_init_79 : decode cX9_init 79 = .ok (.aload_n 0, 1) := by decide +kernel
theorem dX9_init_80 : decode cX9_init 80 = .ok (.getfield 7, 3) := by decide +kernel
theorem dX9_init_83 : decode cX9_init 83 = .ok (.iconst 1, 1) := by decide +kernel
theorem dX9_init_84 : decode cX9_init 84 = .ok (.bipush 100, 2) := by decide +kernel
theorem dX9_init_86 : decode cX9_init 86 = .ok (.iastore, 1) := by decide +kernel
theorem dX9_init_87 : decode cX9_init 87 = .ok (.return_, 1) := by decide +kernel
theorem dX9_in_0 : decode cX9_in 0 = .ok (.iload_n 0, 1) := by decide +kernel
theorem dX9_in_1 : decode cX9_in 1 = .ok (.iload_n 1, 1) := by decide +kernel
theorem dX9_in_2 : decode cX9_in 2 = .ok (.if_icmp .lt 12, 3) := by decide +kernel
theorem dX9_in_5 : decode cX9_in 5 = .ok (.iload_n 0, 1) := by decide +kernel
theorem dX9_in_6 : decode cX9_in 6 = .ok (.iload_n 2, 1) := by decide +kernel
theorem dX9_in_7 : decode cX9_in 7 = .ok (.if_icmp .gt 7, 3) := by decide +kernel
theorem dX9_in_10 : decode cX9_in 10 = .ok (.iconst 1, 1) := by decide +kernel
theorem dX9_in_11 : decode cX9_in 11 = .ok (.goto 4, 3) := by decide +kernel
theorem dX9_in_14 : decode cX9_in 14 = .ok (.iconst 0, 1) := by decide +kernel
theorem dX9_in_15 : decode cX9_in 15 = .ok (.ireturn, 1) := by decide +kernel
theorem dX9_isPump_0 : decode cX9_isPump 0 = .ok (.iload_n 1, 1) := by decide +kernel
theorem dX9_isPump_1 : decode cX9_isPump 1 = .ok (.iconst 0, 1) := by decide +kernel
theorem dX9_isPump_2 : decode cX9_isPump 2 = .ok (.aload_n 0, 1) := by decide +kernel
theorem dX9_isPump_3 : decode cX9_isPump 3 = .ok (.getfield 7, 3) := by decide +kernel
theorem dX9_isPump_6 : decode cX9_isPump 6 = .ok (.iconst 4, 1) := by decide +kernel
theorem dX9_isPump_7 : decode cX9_isPump 7 = .ok (.iaload, 1) := by decide +kernel
theorem dX9_isPump_8 : decode cX9_isPump 8 = .ok (.iconst 1, 1) := by decide +kernel
theorem dX9_isPump_9 : decode cX9_isPump 9 = .ok (.isub, 1) := by decide +kernel
theorem dX9_isPump_10 : decode cX9_isPump 10 = .ok (.invokestatic 35, 3) := by decide +kernel
theorem dX9_isPump_13 : decode cX9_isPump 13 = .ok (.ireturn, 1) := by decide +kernel
theorem dX9_at_0 : decode cX9_at 0 = .ok (.iconst 5, 1) := by decide +kernel
theorem dX9_at_1 : decode cX9_at 1 = .ok (.bipush 73, 2) := by decide +kernel
theorem dX9_at_3 : decode cX9_at 3 = .ok (.iload_n 0, 1) := by decide +kernel
theorem dX9_at_4 : decode cX9_at 4 = .ok (.imul, 1) := by decide +kernel
theorem dX9_at_5 : decode cX9_at 5 = .ok (.iadd, 1) := by decide +kernel
theorem dX9_at_6 : decode cX9_at 6 = .ok (.ireturn, 1) := by decide +kernel
theorem dX9_running_0 : decode cX9_running 0 = .ok (.iconst 0, 1) := by decide +kernel
theorem dX9_running_1 : decode cX9_running 1 = .ok (.istore_n 1, 1) := by decide +kernel
theorem dX9_running_2 : decode cX9_running 2 = .ok (.iconst 0, 1) := by decide +kernel
theorem dX9_running_3 : decode cX9_running 3 = .ok (.istore_n 2, 1) := by decide +kernel
theorem dX9_running_4 : decode cX9_running 4 = .ok (.iload_n 2, 1) := by decide +kernel
theorem dX9_running_5 : decode cX9_running 5 = .ok (.aload_n 0, 1) := by decide +kernel
theorem dX9_running_6 : decode cX9_running 6 = .ok (.getfield 7, 3) := by decide +kernel
theorem dX9_running_9 : decode cX9_running 9 = .ok (.iconst 4, 1) := by decide +kernel
theorem dX9_running_10 : decode cX9_running 10 = .ok (.iaload, 1) := by decide +kernel
theorem dX9_running_11 : decode cX9_running 11 = .ok (.if_icmp .ge 23, 3) := by decide +kernel
theorem dX9_running_14 : decode cX9_running 14 = .ok (.iload_n 1, 1) := by decide +kernel
theorem dX9_running_15 : decode cX9_running 15 = .ok (.aload_n 0, 1) := by decide +kernel
theorem dX9_running_16 : decode cX9_running 16 = .ok (.getfield 7, 3) := by decide +kernel
theorem dX9_running_19 : decode cX9_running 19 = .ok (.iload_n 2, 1) := by decide +kernel
theorem dX9_running_20 : decode cX9_running 20 = .ok (.invokestatic 39, 3) := by decide +kernel
theorem dX9_running_23 : decode cX9_running 23 = .ok (.iconst 5, 1) := by decide +kernel
theorem dX9_running_24 : decode cX9_running 24 = .ok (.iadd, 1) := by decide +kernel
theorem dX9_running_25 : decode cX9_running 25 = .ok (.iaload, 1) := by decide +kernel
theorem dX9_running_26 : decode cX9_running 26 = .ok (.iadd, 1) := by decide +kernel
theorem dX9_running_27 : decode cX9_running 27 = .ok (.istore_n 1, 1) := by decide +kernel
theorem dX9_running_28 : decode cX9_running 28 = .ok (.iinc 2 1, 3) := by decide +kernel
theorem dX9_running_31 : decode cX9_running 31 = .ok (.goto (-27), 3) := by decide +kernel
theorem dX9_running_34 : decode cX9_running 34 = .ok (.iload_n 1, 1) := by decide +kernel
theorem dX9_running_35 : decode cX9_running 35 = .ok (.ireturn, 1) := by decide +kernel
theorem dX9_record_0 : decode cX9_record 0 = .ok (.aload_n 0, 1) := by decide +kernel
theorem dX9_record_1 : decode cX9_record 1 = .ok (.getfield 43, 3) := by decide +kernel
theorem dX9_record_4 : decode cX9_record 4 = .ok (.bipush 8, 2) := by decide +kernel
theorem dX9_record_6 : decode cX9_record 6 = .ok (.if_icmp .ne 46, 3) := by decide +kernel
theorem dX9_record_9 : decode cX9_record 9 = .ok (.sipush 297, 3) := by decide +kernel
theorem dX9_record_12 : decode cX9_record 12 = .ok (.istore_n 1, 1) := by decide +kernel
theorem dX9_record_13 : decode cX9_record 13 = .ok (.iload_n 1, 1) := by decide +kernel
theorem dX9_record_14 : decode cX9_record 14 = .ok (.sipush 2376, 3) := by decide +kernel
theorem dX9_record_17 : decode cX9_record 17 = .ok (.if_icmp .ge 25, 3) := by decide +kernel
theorem dX9_record_20 : decode cX9_record 20 = .ok (.aload_n 0, 1) := by decide +kernel
theorem dX9_record_21 : decode cX9_record 21 = .ok (.getfield 13, 3) := by decide +kernel
theorem dX9_record_24 : decode cX9_record 24 = .ok (.iload_n 1, 1) := by decide +kernel
theorem dX9_record_25 : decode cX9_record 25 = .ok (.sipush 297, 3) := by decide +kernel
theorem dX9_record_28 : decode cX9_record 28 = .ok (.isub, 1) := by decide +kernel
theorem dX9_record_29 : decode cX9_record 29 = .ok (.aload_n 0, 1) := by decide +kernel
theorem dX9_record_30 : decode cX9_record 30 = .ok (.getfield 13, 3) := by decide +kernel
theorem dX9_record_33 : decode cX9_record 33 = .ok (.iload_n 1, 1) := by decide +kernel
theorem dX9_record_34 : decode cX9_record 34 = .ok (.iaload, 1) := by decide +kernel
theorem dX9_record_35 : decode cX9_record 35 = .ok (.iastore, 1) := by decide +kernel
theorem dX9_record_36 : decode cX9_record 36 = .ok (.iinc 1 1, 3) := by decide +kernel
theorem dX9_record_39 : decode cX9_record 39 = .ok (.goto (-26), 3) := by decide +kernel
theorem dX9_record_42 : decode cX9_record 42 = .ok (.aload_n 0, 1) := by decide +kernel
theorem dX9_record_43 : decode cX9_record 43 = .ok (.dup, 1) := by decide +kernel
theorem dX9_record_44 : decode cX9_record 44 = .ok (.getfield 43, 3) := by decide +kernel
theorem dX9_record_47 : decode cX9_record 47 = .ok (.iconst 1, 1) := by decide +kernel
theorem dX9_record_48 : decode cX9_record 48 = .ok (.isub, 1) := by decide +kernel
theorem dX9_record_49 : decode cX9_record 49 = .ok (.putfield 43, 3) := by decide +kernel
theorem dX9_record_52 : decode cX9_record 52 = .ok (.iconst 0, 1) := by decide +kernel
theorem dX9_record_53 : decode cX9_record 53 = .ok (.istore_n 1, 1) := by decide +kernel
theorem dX9_record_54 : decode cX9_record 54 = .ok (.iload_n 1, 1) := by decide +kernel
theorem dX9_record_55 : decode cX9_record 55 = .ok (.sipush 297, 3) := by decide +kernel
theorem dX9_record_58 : decode cX9_record 58 = .ok (.if_icmp .ge 30, 3) := by decide +kernel
theorem dX9_record_61 : decode cX9_record 61 = .ok (.aload_n 0, 1) := by decide +kernel
theorem dX9_record_62 : decode cX9_record 62 = .ok (.getfield 13, 3) := by decide +kernel
theorem dX9_record_65 : decode cX9_record 65 = .ok (.sipush 297, 3) := by decide +kernel
theorem dX9_record_68 : decode cX9_record 68 = .ok (.aload_n 0, 1) := by decide +kernel
theorem dX9_record_69 : decode cX9_record 69 = .ok (.getfield 43, 3) := by decide +kernel
theorem dX9_record_72 : decode cX9_record 72 = .ok (.imul, 1) := by decide +kernel
theorem dX9_record_73 : decode cX9_record 73 = .ok (.iload_n 1, 1) := by decide +kernel
theorem dX9_record_74 : decode cX9_record 74 = .ok (.iadd, 1) := by decide +kernel
theorem dX9_record_75 : decode cX9_record 75 = .ok (.aload_n 0, 1) := by decide +kernel
theorem dX9_record_76 : decode cX9_record 76 = .ok (.getfield 7, 3) := by decide +kernel
theorem dX9_record_79 : decode cX9_record 79 = .ok (.iload_n 1, 1) := by decide +kernel
theorem dX9_record_80 : decode cX9_record 80 = .ok (.iaload, 1) := by decide +kernel
theorem dX9_record_81 : decode cX9_record 81 = .ok (.iastore, 1) := by decide +kernel
theorem dX9_record_82 : decode cX9_record 82 = .ok (.iinc 1 1, 3) := by decide +kernel
theorem dX9_record_85 : decode cX9_record 85 = .ok (.goto (-31), 3) := by decide +kernel
theorem dX9_record_88 : decode cX9_record 88 = .ok (.aload_n 0, 1) := by decide +kernel
theorem dX9_record_89 : decode cX9_record 89 = .ok (.dup, 1) := by decide +kernel
theorem dX9_record_90 : decode cX9_record 90 = .ok (.getfield 43, 3) := by decide +kernel
theorem dX9_record_93 : decode cX9_record 93 = .ok (.iconst 1, 1) := by decide +kernel
theorem dX9_record_94 : decode cX9_record 94 = .ok (.iadd, 1) := by decide +kernel
theorem dX9_record_95 : decode cX9_record 95 = .ok (.putfield 43, 3) := by decide +kernel
theorem dX9_record_98 : decode cX9_record 98 = .ok (.return_, 1) := by decide +kernel
theorem dX9_undo_0 : decode cX9_undo 0 = .ok (.aload_n 0, 1) := by decide +kernel
theorem dX9_undo_1 : decode cX9_undo 1 = .ok (.getfield 43, 3) := by decide +kernel
theorem dX9_undo_4 : decode cX9_undo 4 = .ok (.ifCond .ne 7, 3) := by decide +kernel
theorem dX9_undo_7 : decode cX9_undo 7 = .ok (.sipush (-1005), 3) := by decide +kernel
theorem dX9_undo_10 : decode cX9_undo 10 = .ok (.ireturn, 1) := by decide +kernel
theorem dX9_undo_11 : decode cX9_undo 11 = .ok (.aload_n 0, 1) := by decide +kernel
theorem dX9_undo_12 : decode cX9_undo 12 = .ok (.dup, 1) := by decide +kernel
theorem dX9_undo_13 : decode cX9_undo 13 = .ok (.getfield 43, 3) := by decide +kernel
theorem dX9_undo_16 : decode cX9_undo 16 = .ok (.iconst 1, 1) := by decide +kernel
theorem dX9_undo_17 : decode cX9_undo 17 = .ok (.isub, 1) := by decide +kernel
theorem dX9_undo_18 : decode cX9_undo 18 = .ok (.putfield 43, 3) := by decide +kernel
theorem dX9_undo_21 : decode cX9_undo 21 = .ok (.iconst 0, 1) := by decide +kernel
theorem dX9_undo_22 : decode cX9_undo 22 = .ok (.istore_n 1, 1) := by decide +kernel
theorem dX9_undo_23 : decode cX9_undo 23 = .ok (.iload_n 1, 1) := by decide +kernel
theorem dX9_undo_24 : decode cX9_undo 24 = .ok (.sipush 297, 3) := by decide +kernel
theorem dX9_undo_27 : decode cX9_undo 27 = .ok (.if_icmp .ge 30, 3) := by decide +kernel
theorem dX9_undo_30 : decode cX9_undo 30 = .ok (.aload_n 0, 1) := by decide +kernel
theorem dX9_undo_31 : decode cX9_undo 31 = .ok (.getfield 7, 3) := by decide +kernel
theorem dX9_undo_34 : decode cX9_undo 34 = .ok (.iload_n 1, 1) := by decide +kernel
theorem dX9_undo_35 : decode cX9_undo 35 = .ok (.aload_n 0, 1) := by decide +kernel
theorem dX9_undo_36 : decode cX9_undo 36 = .ok (.getfield 13, 3) := by decide +kernel
theorem dX9_undo_39 : decode cX9_undo 39 = .ok (.sipush 297, 3) := by decide +kernel
theorem dX9_undo_42 : decode cX9_undo 42 = .ok (.aload_n 0, 1) := by decide +kernel
theorem dX9_undo_43 : decode cX9_undo 43 = .ok (.getfield 43, 3) := by decide +kernel
theorem dX9_undo_46 : decode cX9_undo 46 = .ok (.imul, 1) := by decide +kernel
theorem dX9_undo_47 : decode cX9_undo 47 = .ok (.iload_n 1, 1) := by decide +kernel
theorem dX9_undo_48 : decode cX9_undo 48 = .ok (.iadd, 1) := by decide +kernel
theorem dX9_undo_49 : decode cX9_undo 49 = .ok (.iaload, 1) := by decide +kernel
theorem dX9_undo_50 : decode cX9_undo 50 = .ok (.iastore, 1) := by decide +kernel
theorem dX9_undo_51 : decode cX9_undo 51 = .ok (.iinc 1 1, 3) := by decide +kernel
theorem dX9_undo_54 : decode cX9_undo 54 = .ok (.goto (-31), 3) := by decide +kernel
theorem dX9_undo_57 : decode cX9_undo 57 = .ok (.aload_n 0, 1) := by decide +kernel
theorem dX9_undo_58 : decode cX9_undo 58 = .ok (.getfield 43, 3) := by decide +kernel
theorem dX9_undo_61 : decode cX9_undo 61 = .ok (.ireturn, 1) := by decide +kernel
theorem dX9_incident_0 : decode cX9_incident 0 = .ok (.aload_n 0, 1) := by decide +kernel
theorem dX9_incident_1 : decode cX9_incident 1 = .ok (.getfield 46, 3) := by decide +kernel
theorem dX9_incident_4 : decode cX9_incident 4 = .ok (.bipush 20, 2) := by decide +kernel
theorem dX9_incident_6 : decode cX9_incident 6 = .ok (.irem, 1) := by decide +kernel
theorem dX9_incident_7 : decode cX9_incident 7 = .ok (.istore_n 3, 1) := by decide +kernel
theorem dX9_incident_8 : decode cX9_incident 8 = .ok (.aload_n 0, 1) := by decide +kernel
theorem dX9_incident_9 : decode cX9_incident 9 = .ok (.getfield 16, 3) := by decide +kernel
theorem dX9_incident_12 : decode cX9_incident 12 = .ok (.iload_n 3, 1) := by decide +kernel
theorem dX9_incident_13 : decode cX9_incident 13 = .ok (.iload_n 1, 1) := by decide +kernel
theorem dX9_incident_14 : decode cX9_incident 14 = .ok (.iastore, 1) := by decide +kernel
theorem dX9_incident_15 : decode cX9_incident 15 = .ok (.aload_n 0, 1) := by decide +kernel
theorem dX9_incident_16 : decode cX9_incident 16 = .ok (.getfield 19, 3) := by decide +kernel
theorem dX9_incident_19 : decode cX9_incident 19 = .ok (.iload_n 3, 1) := by decide +kernel
theorem dX9_incident_20 : decode cX9_incident 20 = .ok (.iload_n 2, 1) := by decide +kernel
theorem dX9_incident_21 : decode cX9_incident 21 = .ok (.iastore, 1) := by decide +kernel
theorem dX9_incident_22 : decode cX9_incident 22 = .ok (.aload_n 0, 1) := by decide +kernel
theorem dX9_incident_23 : decode cX9_incident 23 = .ok (.getfield 22, 3) := by decide +kernel
theorem dX9_incident_26 : decode cX9_incident 26 = .ok (.iload_n 3, 1) := by decide +kernel
theorem dX9_incident_27 : decode cX9_incident 27 = .ok (.aload_n 0, 1) := by decide +kernel
theorem dX9_incident_28 : decode cX9_incident 28 = .ok (.getfield 7, 3) := by decide +kernel
theorem dX9_incident_31 : decode cX9_incident 31 = .ok (.iconst 2, 1) := by decide +kernel
theorem dX9_incident_32 : decode cX9_incident 32 = .ok (.iaload, 1) := by decide +kernel
theorem dX9_incident_33 : decode cX9_incident 33 = .ok (.iastore, 1) := by decide +kernel
theorem dX9_incident_34 : decode cX9_incident 34 = .ok (.aload_n 0, 1) := by decide +kernel
theorem dX9_incident_35 : decode cX9_incident 35 = .ok (.dup, 1) := by decide +kernel
theorem dX9_incident_36 : decode cX9_incident 36 = .ok (.getfield 46, 3) := by decide +kernel
theorem dX9_incident_39 : decode cX9_incident 39 = .ok (.iconst 1, 1) := by decide +kernel
theorem dX9_incident_40 : decode cX9_incident 40 = .ok (.iadd, 1) := by decide +kernel
theorem dX9_incident_41 : decode cX9_incident 41 = .ok (.putfield 46, 3) := by decide +kernel
theorem dX9_incident_44 : decode cX9_incident 44 = .ok (.return_, 1) := by decide +kernel
theorem dX9_place_0 : decode cX9_place 0 = .ok (.iload_n 1, 1) := by decide +kernel
theorem dX9_place_1 : decode cX9_place 1 = .ok (.ifCond .ge 7, 3) := by decide +kernel
theorem dX9_place_4 : decode cX9_place 4 = .ok (.sipush (-1002), 3) := by decide +kernel
theorem dX9_place_7 : decode cX9_place 7 = .ok (.ireturn, 1) := by decide +kernel
theorem dX9_place_8 : decode cX9_place 8 = .ok (.iload_n 1, 1) := by decide +kernel
theorem dX9_place_9 : decode cX9_place 9 = .ok (.bipush 20, 2) := by decide +kernel
theorem dX9_place_11 : decode cX9_place 11 = .ok (.if_icmp .ge 25, 3) := by decide +kernel
theorem dX9_place_14 : decode cX9_place 14 = .ok (.iload_n 1, 1) := by decide +kernel
theorem dX9_place_15 : decode cX9_place 15 = .ok (.aload_n 0, 1) := by decide +kernel
theorem dX9_place_16 : decode cX9_place 16 = .ok (.getfield 46, 3) := by decide +kernel
theorem dX9_place_19 : decode cX9_place 19 = .ok (.if_icmp .ge 17, 3) := by decide +kernel
theorem dX9_place_22 : decode cX9_place 22 = .ok (.aload_n 0, 1) := by decide +kernel
theorem dX9_place_23 : decode cX9_place 23 = .ok (.getfield 46, 3) := by decide +kernel
theorem dX9_place_26 : decode cX9_place 26 = .ok (.iconst 1, 1) := by decide +kernel
theorem dX9_place_27 : decode cX9_place 27 = .ok (.isub, 1) := by decide +kernel
theorem dX9_place_28 : decode cX9_place 28 = .ok (.iload_n 1, 1) := by decide +kernel
theorem dX9_place_29 : decode cX9_place 29 = .ok (.isub, 1) := by decide +kernel
theorem dX9_place_30 : decode cX9_place 30 = .ok (.bipush 20, 2) := by decide +kernel
theorem dX9_place_32 : decode cX9_place 32 = .ok (.irem, 1) := by decide +kernel
theorem dX9_place_33 : decode cX9_place 33 = .ok (.goto 6, 3) := by decide +kernel
theorem dX9_place_36 : decode cX9_place 36 = .ok (.sipush (-1005), 3) := by decide +kernel
theorem dX9_place_39 : decode cX9_place 39 = .ok (.ireturn, 1) := by decide +kernel
theorem dX9_leastSpace_0 : decode cX9_leastSpace 0 = .ok (.aload_n 0, 1) := by decide +kernel
theorem dX9_leastSpace_1 : decode cX9_leastSpace 1 = .ok (.getfield 7, 3) := by decide +kernel
theorem dX9_leastSpace_4 : decode cX9_leastSpace 4 = .ok (.iload_n 1, 1) := by decide +kernel
theorem dX9_leastSpace_5 : decode cX9_leastSpace 5 = .ok (.bipush 11, 2) := by decide +kernel
theorem dX9_leastSpace_7 : decode cX9_leastSpace 7 = .ok (.iadd, 1) := by decide +kernel
theorem dX9_leastSpace_8 : decode cX9_leastSpace 8 = .ok (.iaload, 1) := by decide +kernel
theorem dX9_leastSpace_9 : decode cX9_leastSpace 9 = .ok (.bipush 10, 2) := by decide +kernel
theorem dX9_leastSpace_11 : decode cX9_leastSpace 11 = .ok (.idiv, 1) := by decide +kernel
theorem dX9_leastSpace_12 : decode cX9_leastSpace 12 = .ok (.ireturn, 1) := by decide +kernel
theorem dX9_head_0 : decode cX9_head 0 = .ok (.bipush 100, 2) := by decide +kernel
theorem dX9_head_2 : decode cX9_head 2 = .ok (.aload_n 0, 1) := by decide +kernel
theorem dX9_head_3 : decode cX9_head 3 = .ok (.getfield 7, 3) := by decide +kernel
theorem dX9_head_6 : decode cX9_head 6 = .ok (.iload_n 1, 1) := by decide +kernel
theorem dX9_head_7 : decode cX9_head 7 = .ok (.bipush 14, 2) := by decide +kernel
theorem dX9_head_9 : decode cX9_head 9 = .ok (.iadd, 1) := by decide +kernel
theorem dX9_head_10 : decode cX9_head 10 = .ok (.iaload, 1) := by decide +kernel
theorem dX9_head_11 : decode cX9_head 11 = .ok (.imul, 1) := by decide +kernel
theorem dX9_head_12 : decode cX9_head 12 = .ok (.aload_n 0, 1) := by decide +kernel
theorem dX9_head_13 : decode cX9_head 13 = .ok (.getfield 7, 3) := by decide +kernel
theorem dX9_head_16 : decode cX9_head 16 = .ok (.iload_n 1, 1) := by decide +kernel
theorem dX9_head_17 : decode cX9_head 17 = .ok (.bipush 11, 2) := by decide +kernel
theorem dX9_head_19 : decode cX9_head 19 = .ok (.iadd, 1) := by decide +kernel
theorem dX9_head_20 : decode cX9_head 20 = .ok (.iaload, 1) := by decide +kernel
theorem dX9_head_21 : decode cX9_head 21 = .ok (.aload_n 0, 1) := by decide +kernel
theorem dX9_head_22 : decode cX9_head 22 = .ok (.getfield 7, 3) := by decide +kernel
theorem dX9_head_25 : decode cX9_head 25 = .ok (.iload_n 1, 1) := by decide +kernel
theorem dX9_head_26 : decode cX9_head 26 = .ok (.bipush 13, 2) := by decide +kernel
theorem dX9_head_28 : decode cX9_head 28 = .ok (.iadd, 1) := by decide +kernel
theorem dX9_head_29 : decode cX9_head 29 = .ok (.iaload, 1) := by decide +kernel
theorem dX9_head_30 : decode cX9_head 30 = .ok (.isub, 1) := by decide +kernel
theorem dX9_head_31 : decode cX9_head 31 = .ok (.idiv, 1) := by decide +kernel
theorem dX9_head_32 : decode cX9_head 32 = .ok (.bipush 100, 2) := by decide +kernel
theorem dX9_head_34 : decode cX9_head 34 = .ok (.isub, 1) := by decide +kernel
theorem dX9_head_35 : decode cX9_head 35 = .ok (.istore_n 2, 1) := by decide +kernel
theorem dX9_head_36 : decode cX9_head 36 = .ok (.iload_n 2, 1) := by decide +kernel
theorem dX9_head_37 : decode cX9_head 37 = .ok (.ifCond .ge 7, 3) := by decide +kernel
theorem dX9_head_40 : decode cX9_head 40 = .ok (.iconst 0, 1) := by decide +kernel
theorem dX9_head_41 : decode cX9_head 41 = .ok (.goto 4, 3) := by decide +kernel
theorem dX9_head_44 : decode cX9_head 44 = .ok (.iload_n 2, 1) := by decide +kernel
theorem dX9_head_45 : decode cX9_head 45 = .ok (.ireturn, 1) := by decide +kernel
theorem dX9_slamsBy_0 : decode cX9_slamsBy 0 = .ok (.aload_n 0, 1) := by decide +kernel
theorem dX9_slamsBy_1 : decode cX9_slamsBy 1 = .ok (.getfield 7, 3) := by decide +kernel
theorem dX9_slamsBy_4 : decode cX9_slamsBy 4 = .ok (.iload_n 1, 1) := by decide +kernel
theorem dX9_slamsBy_5 : decode cX9_slamsBy 5 = .ok (.bipush 6, 2) := by decide +kernel
theorem dX9_slamsBy_7 : decode cX9_slamsBy 7 = .ok (.iadd, 1) := by decide +kernel
theorem dX9_slamsBy_8 : decode cX9_slamsBy 8 = .ok (.iaload, 1) := by decide +kernel
theorem dX9_slamsBy_9 : decode cX9_slamsBy 9 = .ok (.istore_n 2, 1) := by decide +kernel
theorem dX9_slamsBy_10 : decode cX9_slamsBy 10 = .ok (.aload_n 0, 1) := by decide +kernel
theorem dX9_slamsBy_11 : decode cX9_slamsBy 11 = .ok (.getfield 7, 3) := by decide +kernel
theorem dX9_slamsBy_14 : decode cX9_slamsBy 14 = .ok (.iload_n 1, 1) := by decide +kernel
theorem dX9_slamsBy_15 : decode cX9_slamsBy 15 = .ok (.bipush 9, 2) := by decide +kernel
theorem dX9_slamsBy_17 : decode cX9_slamsBy 17 = .ok (.iadd, 1) := by decide +kernel
theorem dX9_slamsBy_18 : decode cX9_slamsBy 18 = .ok (.iaload, 1) := by decide +kernel
theorem dX9_slamsBy_19 : decode cX9_slamsBy 19 = .ok (.ifCond .ne 7, 3) := by decide +kernel
theorem dX9_slamsBy_22 : decode cX9_slamsBy 22 = .ok (.iload_n 2, 1) := by decide +kernel
theorem dX9_slamsBy_23 : decode cX9_slamsBy 23 = .ok (.goto 34, 3) := by decide +kernel
theorem dX9_slamsBy_26 : decode cX9_slamsBy 26 = .ok (.aload_n 0, 1) := by decide +kernel
theorem dX9_slamsBy_27 : decode cX9_slamsBy 27 = .ok (.getfield 7, 3) := by decide +kernel
theorem dX9_slamsBy_30 : decode cX9_slamsBy 30 = .ok (.iload_n 1, 1) := by decide +kernel
theorem dX9_slamsBy_31 : decode cX9_slamsBy 31 = .ok (.bipush 9, 2) := by decide +kernel
theorem dX9_slamsBy_33 : decode cX9_slamsBy 33 = .ok (.iadd, 1) := by decide +kernel
theorem dX9_slamsBy_34 : decode cX9_slamsBy 34 = .ok (.iaload, 1) := by decide +kernel
theorem dX9_slamsBy_35 : decode cX9_slamsBy 35 = .ok (.iconst 1, 1) := by decide +kernel
theorem dX9_slamsBy_36 : decode cX9_slamsBy 36 = .ok (.if_icmp .ne 12, 3) := by decide +kernel
theorem dX9_slamsBy_39 : decode cX9_slamsBy 39 = .ok (.iload_n 2, 1) := by decide +kernel
theorem dX9_slamsBy_40 : decode cX9_slamsBy 40 = .ok (.iload_n 2, 1) := by decide +kernel
theorem dX9_slamsBy_41 : decode cX9_slamsBy 41 = .ok (.imul, 1) := by decide +kernel
theorem dX9_slamsBy_42 : decode cX9_slamsBy 42 = .ok (.bipush 100, 2) := by decide +kernel
theorem dX9_slamsBy_44 : decode cX9_slamsBy 44 = .ok (.idiv, 1) := by decide +kernel
theorem dX9_slamsBy_45 : decode cX9_slamsBy 45 = .ok (.goto 12, 3) := by decide +kernel
theorem dX9_slamsBy_48 : decode cX9_slamsBy 48 = .ok (.aload_n 0, 1) := by decide +kernel
theorem dX9_slamsBy_49 : decode cX9_slamsBy 49 = .ok (.getfield 7, 3) := by decide +kernel
theorem dX9_slamsBy_52 : decode cX9_slamsBy 52 = .ok (.iload_n 1, 1) := by decide +kernel
theorem dX9_slamsBy_53 : decode cX9_slamsBy 53 = .ok (.bipush 8, 2) := by decide +kernel
theorem dX9_slamsBy_55 : decode cX9_slamsBy 55 = .ok (.iadd, 1) := by decide +kernel
theorem dX9_slamsBy_56 : decode cX9_slamsBy 56 = .ok (.iaload, 1) := by decide +kernel
theorem dX9_slamsBy_57 : decode cX9_slamsBy 57 = .ok (.istore_n 3, 1) := by decide +kernel
theorem dX9_slamsBy_58 : decode cX9_slamsBy 58 = .ok (.iload_n 3, 1) := by decide +kernel
theorem dX9_slamsBy_59 : decode cX9_slamsBy 59 = .ok (.aload_n 0, 1) := by decide +kernel
theorem dX9_slamsBy_60 : decode cX9_slamsBy 60 = .ok (.getfield 7, 3) := by decide +kernel
theorem dX9_slamsBy_63 : decode cX9_slamsBy 63 = .ok (.iload_n 1, 1) := by decide +kernel
theorem dX9_slamsBy_64 : decode cX9_slamsBy 64 = .ok (.bipush 10, 2) := by decide +kernel
theorem dX9_slamsBy_66 : decode cX9_slamsBy 66 = .ok (.iadd, 1) := by decide +kernel
theorem dX9_slamsBy_67 : decode cX9_slamsBy 67 = .ok (.iaload, 1) := by decide +kernel
theorem dX9_slamsBy_68 : decode cX9_slamsBy 68 = .ok (.if_icmp .lt 7, 3) := by decide +kernel
theorem dX9_slamsBy_71 : decode cX9_slamsBy 71 = .ok (.iconst 1, 1) := by decide +kernel
theorem dX9_slamsBy_72 : decode cX9_slamsBy 72 = .ok (.goto 4, 3) := by decide +kernel
theorem dX9_slamsBy_75 : decode cX9_slamsBy 75 = .ok (.iconst 0, 1) := by decide +kernel
theorem dX9_slamsBy_76 : decode cX9_slamsBy 76 = .ok (.ireturn, 1) := by decide +kernel
theorem dX9_open_0 : decode cX9_open 0 = .ok (.aload_n 0, 1) := by decide +kernel
theorem dX9_open_1 : decode cX9_open 1 = .ok (.getfield 7, 3) := by decide +kernel
theorem dX9_open_4 : decode cX9_open 4 = .ok (.iload_n 1, 1) := by decide +kernel
theorem dX9_open_5 : decode cX9_open 5 = .ok (.bipush 6, 2) := by decide +kernel
theorem dX9_open_7 : decode cX9_open 7 = .ok (.iadd, 1) := by decide +kernel
theorem dX9_open_8 : decode cX9_open 8 = .ok (.iconst 0, 1) := by decide +kernel
theorem dX9_open_9 : decode cX9_open 9 = .ok (.iastore, 1) := by decide +kernel
theorem dX9_open_10 : decode cX9_open 10 = .ok (.aload_n 0, 1) := by decide +kernel
theorem dX9_open_11 : decode cX9_open 11 = .ok (.getfield 7, 3) := by decide +kernel
theorem dX9_open_14 : decode cX9_open 14 = .ok (.iload_n 1, 1) := by decide +kernel
theorem dX9_open_15 : decode cX9_open 15 = .ok (.bipush 7, 2) := by decide +kernel
theorem dX9_open_17 : decode cX9_open 17 = .ok (.iadd, 1) := by decide +kernel
theorem dX9_open_18 : decode cX9_open 18 = .ok (.iconst 0, 1) := by decide +kernel
theorem dX9_open_19 : decode cX9_open 19 = .ok (.iastore, 1) := by decide +kernel
theorem dX9_open_20 : decode cX9_open 20 = .ok (.aload_n 0, 1) := by decide +kernel
theorem dX9_open_21 : decode cX9_open 21 = .ok (.getfield 7, 3) := by decide +kernel
theorem dX9_open_24 : decode cX9_open 24 = .ok (.iload_n 1, 1) := by decide +kernel
theorem dX9_open_25 : decode cX9_open 25 = .ok (.bipush 8, 2) := by decide +kernel
theorem dX9_open_27 : decode cX9_open 27 = .ok (.iadd, 1) := by decide +kernel
theorem dX9_open_28 : decode cX9_open 28 = .ok (.iconst 0, 1) := by decide +kernel
theorem dX9_open_29 : decode cX9_open 29 = .ok (.iastore, 1) := by decide +kernel
theorem dX9_open_30 : decode cX9_open 30 = .ok (.return_, 1) := by decide +kernel
theorem dX9_addInterval_0 : decode cX9_addInterval 0 = .ok (.bipush 15, 2) := by decide +kernel
theorem dX9_addInterval_2 : decode cX9_addInterval 2 = .ok (.istore_n 2, 1) := by decide +kernel
theorem dX9_addInterval_3 : decode cX9_addInterval 3 = .ok (.iload_n 2, 1) := by decide +kernel
theorem dX9_addInterval_4 : decode cX9_addInterval 4 = .ok (.ifCond .le 33, 3) := by decide +kernel
theorem dX9_addInterval_7 : decode cX9_addInterval 7 = .ok (.aload_n 0, 1) := by decide +kernel
theorem dX9_addInterval_8 : decode cX9_addInterval 8 = .ok (.getfield 7, 3) := by decide +kernel
theorem dX9_addInterval_11 : decode cX9_addInterval 11 = .ok (.iload_n 1, 1) := by decide +kernel
theorem dX9_addInterval_12 : decode cX9_addInterval 12 = .ok (.bipush 24, 2) := by decide +kernel
theorem dX9_addInterval_14 : decode cX9_addInterval 14 = .ok (.iadd, 1) := by decide +kernel
theorem dX9_addInterval_15 : decode cX9_addInterval 15 = .ok (.iload_n 2, 1) := by decide +kernel
theorem dX9_addInterval_16 : decode cX9_addInterval 16 = .ok (.iadd, 1) := by decide +kernel
theorem dX9_addInterval_17 : decode cX9_addInterval 17 = .ok (.aload_n 0, 1) := by decide +kernel
theorem dX9_addInterval_18 : decode cX9_addInterval 18 = .ok (.getfield 7, 3) := by decide +kernel
theorem dX9_addInterval_21 : decode cX9_addInterval 21 = .ok (.iload_n 1, 1) := by decide +kernel
theorem dX9_addInterval_22 : decode cX9_addInterval 22 = .ok (.bipush 24, 2) := by decide +kernel
theorem dX9_addInterval_24 : decode cX9_addInterval 24 = .ok (.iadd, 1) := by decide +kernel
theorem dX9_addInterval_25 : decode cX9_addInterval 25 = .ok (.iload_n 2, 1) := by decide +kernel
theorem dX9_addInterval_26 : decode cX9_addInterval 26 = .ok (.iadd, 1) := by decide +kernel
theorem dX9_addInterval_27 : decode cX9_addInterval 27 = .ok (.iconst 1, 1) := by decide +kernel
theorem dX9_addInterval_28 : decode cX9_addInterval 28 = .ok (.isub, 1) := by decide +kernel
theorem dX9_addInterval_29 : decode cX9_addInterval 29 = .ok (.iaload, 1) := by decide +kernel
theorem dX9_addInterval_30 : decode cX9_addInterval 30 = .ok (.iastore, 1) := by decide +kernel
theorem dX9_addInterval_31 : decode cX9_addInterval 31 = .ok (.iinc 2 (-1), 3) := by decide +kernel
theorem dX9_addInterval_34 : decode cX9_addInterval 34 = .ok (.goto (-31), 3) := by decide +kernel
theorem dX9_addInterval_37 : decode cX9_addInterval 37 = .ok (.aload_n 0, 1) := by decide +kernel
theorem dX9_addInterval_38 : decode cX9_addInterval 38 = .ok (.getfield 7, 3) := by decide +kernel
theorem dX9_addInterval_41 : decode cX9_addInterval 41 = .ok (.iload_n 1, 1) := by decide +kernel
theorem dX9_addInterval_42 : decode cX9_addInterval 42 = .ok (.bipush 24, 2) := by decide +kernel
theorem dX9_addInterval_44 : decode cX9_addInterval 44 = .ok (.iadd, 1) := by decide +kernel
theorem dX9_addInterval_45 : decode cX9_addInterval 45 = .ok (.aload_n 0, 1) := by decide +kernel
theorem dX9_addInterval_46 : decode cX9_addInterval 46 = .ok (.getfield 7, 3) := by decide +kernel
theorem dX9_addInterval_49 : decode cX9_addInterval 49 = .ok (.iconst 2, 1) := by decide +kernel
theorem dX9_addInterval_50 : decode cX9_addInterval 50 = .ok (.iaload, 1) := by decide +kernel
theorem dX9_addInterval_51 : decode cX9_addInterval 51 = .ok (.aload_n 0, 1) := by decide +kernel
theorem dX9_addInterval_52 : decode cX9_addInterval 52 = .ok (.getfield 7, 3) := by decide +kernel
theorem dX9_addInterval_55 : decode cX9_addInterval 55 = .ok (.iload_n 1, 1) := by decide +kernel
theorem dX9_addInterval_56 : decode cX9_addInterval 56 = .ok (.bipush 22, 2) := by decide +kernel
theorem dX9_addInterval_58 : decode cX9_addInterval 58 = .ok (.iadd, 1) := by decide +kernel
theorem dX9_addInterval_59 : decode cX9_addInterval 59 = .ok (.iaload, 1) := by decide +kernel
theorem dX9_addInterval_60 : decode cX9_addInterval 60 = .ok (.isub, 1) := by decide +kernel
theorem dX9_addInterval_61 : decode cX9_addInterval 61 = .ok (.iastore, 1) := by decide +kernel
theorem dX9_addInterval_62 : decode cX9_addInterval 62 = .ok (.aload_n 0, 1) := by decide +kernel
theorem dX9_addInterval_63 : decode cX9_addInterval 63 = .ok (.getfield 7, 3) := by decide +kernel
theorem dX9_addInterval_66 : decode cX9_addInterval 66 = .ok (.iload_n 1, 1) := by decide +kernel
theorem dX9_addInterval_67 : decode cX9_addInterval 67 = .ok (.bipush 22, 2) := by decide +kernel
theorem dX9_addInterval_69 : decode cX9_addInterval 69 = .ok (.iadd, 1) := by decide +kernel
theorem dX9_addInterval_70 : decode cX9_addInterval 70 = .ok (.aload_n 0, 1) := by decide +kernel
theorem dX9_addInterval_71 : decode cX9_addInterval 71 = .ok (.getfield 7, 3) := by decide +kernel
theorem dX9_addInterval_74 : decode cX9_addInterval 74 = .ok (.iconst 2, 1) := by decide +kernel
theorem dX9_addInterval_75 : decode cX9_addInterval 75 = .ok (.iaload, 1) := by decide +kernel
theorem dX9_addInterval_76 : decode cX9_addInterval 76 = .ok (.iastore, 1) := by decide +kernel
theorem dX9_addInterval_77 : decode cX9_addInterval 77 = .ok (.aload_n 0, 1) := by decide +kernel
theorem dX9_addInterval_78 : decode cX9_addInterval 78 = .ok (.getfield 7, 3) := by decide +kernel
theorem dX9_addInterval_81 : decode cX9_addInterval 81 = .ok (.iload_n 1, 1) := by decide +kernel
theorem dX9_addInterval_82 : decode cX9_addInterval 82 = .ok (.bipush 23, 2) := by decide +kernel
theorem dX9_addInterval_84 : decode cX9_addInterval 84 = .ok (.iadd, 1) := by decide +kernel
theorem dX9_addInterval_85 : decode cX9_addInterval 85 = .ok (.dup2, 1) := by decide +kernel
theorem dX9_addInterval_86 : decode cX9_addInterval 86 = .ok (.iaload, 1) := by decide +kernel
theorem dX9_addInterval_87 : decode cX9_addInterval 87 = .ok (.aload_n 0, 1) := by decide +kernel
theorem dX9_addInterval_88 : decode cX9_addInterval 88 = .ok (.getfield 7, 3) := by decide +kernel
theorem dX9_addInterval_91 : decode cX9_addInterval 91 = .ok (.iload_n 1, 1) := by decide +kernel
theorem dX9_addInterval_92 : decode cX9_addInterval 92 = .ok (.bipush 23, 2) := by decide +kernel
theorem dX9_addInterval_94 : decode cX9_addInterval 94 = .ok (.iadd, 1) := by decide +kernel
theorem dX9_addInterval_95 : decode cX9_addInterval 95 = .ok (.iaload, 1) := by decide +kernel
theorem dX9_addInterval_96 : decode cX9_addInterval 96 = .ok (.bipush 16, 2) := by decide +kernel
theorem dX9_addInterval_98 : decode cX9_addInterval 98 = .ok (.if_icmp .ge 7, 3) := by decide +kernel
theorem dX9_addInterval_101 : decode cX9_addInterval 101 = .ok (.iconst 1, 1) := by decide +kernel
theorem dX9_addInterval_102 : decode cX9_addInterval 102 = .ok (.goto 4, 3) := by decide +kernel
theorem dX9_addInterval_105 : decode cX9_addInterval 105 = .ok (.iconst 0, 1) := by decide +kernel
theorem dX9_addInterval_106 : decode cX9_addInterval 106 = .ok (.iadd, 1) := by decide +kernel
theorem dX9_addInterval_107 : decode cX9_addInterval 107 = .ok (.iastore, 1) := by decide +kernel
theorem dX9_addInterval_108 : decode cX9_addInterval 108 = .ok (.return_, 1) := by decide +kernel
theorem dX9_addTrace_0 : decode cX9_addTrace 0 = .ok (.bipush 31, 2) := by decide +kernel
theorem dX9_addTrace_2 : decode cX9_addTrace 2 = .ok (.istore_n 2, 1) := by decide +kernel
theorem dX9_addTrace_3 : decode cX9_addTrace 3 = .ok (.iload_n 2, 1) := by decide +kernel
theorem dX9_addTrace_4 : decode cX9_addTrace 4 = .ok (.ifCond .le 33, 3) := by decide +kernel
theorem dX9_addTrace_7 : decode cX9_addTrace 7 = .ok (.aload_n 0, 1) := by decide +kernel
theorem dX9_addTrace_8 : decode cX9_addTrace 8 = .ok (.getfield 7, 3) := by decide +kernel
theorem dX9_addTrace_11 : decode cX9_addTrace 11 = .ok (.iload_n 1, 1) := by decide +kernel
theorem dX9_addTrace_12 : decode cX9_addTrace 12 = .ok (.bipush 41, 2) := by decide +kernel
theorem dX9_addTrace_14 : decode cX9_addTrace 14 = .ok (.iadd, 1) := by decide +kernel
theorem dX9_addTrace_15 : decode cX9_addTrace 15 = .ok (.iload_n 2, 1) := by decide +kernel
theorem dX9_addTrace_16 : decode cX9_addTrace 16 = .ok (.iadd, 1) := by decide +kernel
theorem dX9_addTrace_17 : decode cX9_addTrace 17 = .ok (.aload_n 0, 1) := by decide +kernel
theorem dX9_addTrace_18 : decode cX9_addTrace 18 = .ok (.getfield 7, 3) := by decide +kernel
theorem dX9_addTrace_21 : decode cX9_addTrace 21 = .ok (.iload_n 1, 1) := by decide +kernel
theorem dX9_addTrace_22 : decode cX9_addTrace 22 = .ok (.bipush 41, 2) := by decide +kernel
theorem dX9_addTrace_24 : decode cX9_addTrace 24 = .ok (.iadd, 1) := by decide +kernel
theorem dX9_addTrace_25 : decode cX9_addTrace 25 = .ok (.iload_n 2, 1) := by decide +kernel
theorem dX9_addTrace_26 : decode cX9_addTrace 26 = .ok (.iadd, 1) := by decide +kernel
theorem dX9_addTrace_27 : decode cX9_addTrace 27 = .ok (.iconst 1, 1) := by decide +kernel
theorem dX9_addTrace_28 : decode cX9_addTrace 28 = .ok (.isub, 1) := by decide +kernel
theorem dX9_addTrace_29 : decode cX9_addTrace 29 = .ok (.iaload, 1) := by decide +kernel
theorem dX9_addTrace_30 : decode cX9_addTrace 30 = .ok (.iastore, 1) := by decide +kernel
theorem dX9_addTrace_31 : decode cX9_addTrace 31 = .ok (.iinc 2 (-1), 3) := by decide +kernel
theorem dX9_addTrace_34 : decode cX9_addTrace 34 = .ok (.goto (-31), 3) := by decide +kernel
theorem dX9_addTrace_37 : decode cX9_addTrace 37 = .ok (.aload_n 0, 1) := by decide +kernel
theorem dX9_addTrace_38 : decode cX9_addTrace 38 = .ok (.getfield 7, 3) := by decide +kernel
theorem dX9_addTrace_41 : decode cX9_addTrace 41 = .ok (.iload_n 1, 1) := by decide +kernel
theorem dX9_addTrace_42 : decode cX9_addTrace 42 = .ok (.bipush 6, 2) := by decide +kernel
theorem dX9_addTrace_44 : decode cX9_addTrace 44 = .ok (.iadd, 1) := by decide +kernel
theorem dX9_addTrace_45 : decode cX9_addTrace 45 = .ok (.iaload, 1) := by decide +kernel
theorem dX9_addTrace_46 : decode cX9_addTrace 46 = .ok (.sipush 256, 3) := by decide +kernel
theorem dX9_addTrace_49 : decode cX9_addTrace 49 = .ok (.irem, 1) := by decide +kernel
theorem dX9_addTrace_50 : decode cX9_addTrace 50 = .ok (.istore_n 2, 1) := by decide +kernel
theorem dX9_addTrace_51 : decode cX9_addTrace 51 = .ok (.aload_n 0, 1) := by decide +kernel
theorem dX9_addTrace_52 : decode cX9_addTrace 52 = .ok (.getfield 7, 3) := by decide +kernel
theorem dX9_addTrace_55 : decode cX9_addTrace 55 = .ok (.iload_n 1, 1) := by decide +kernel
theorem dX9_addTrace_56 : decode cX9_addTrace 56 = .ok (.bipush 41, 2) := by decide +kernel
theorem dX9_addTrace_58 : decode cX9_addTrace 58 = .ok (.iadd, 1) := by decide +kernel
theorem dX9_addTrace_59 : decode cX9_addTrace 59 = .ok (.iload_n 2, 1) := by decide +kernel
theorem dX9_addTrace_60 : decode cX9_addTrace 60 = .ok (.bipush 127, 2) := by decide +kernel
theorem dX9_addTrace_62 : decode cX9_addTrace 62 = .ok (.if_icmp .le 11, 3) := by decide +kernel
theorem dX9_addTrace_65 : decode cX9_addTrace 65 = .ok (.iload_n 2, 1) := by decide +kernel
theorem dX9_addTrace_66 : decode cX9_addTrace 66 = .ok (.sipush 256, 3) := by decide +kernel
theorem dX9_addTrace_69 : decode cX9_addTrace 69 = .ok (.isub, 1) := by decide +kernel
theorem dX9_addTrace_70 : decode cX9_addTrace 70 = .ok (.goto 4, 3) := by decide +kernel
theorem dX9_addTrace_73 : decode cX9_addTrace 73 = .ok (.iload_n 2, 1) := by decide +kernel
theorem dX9_addTrace_74 : decode cX9_addTrace 74 = .ok (.iastore, 1) := by decide +kernel
theorem dX9_addTrace_75 : decode cX9_addTrace 75 = .ok (.aload_n 0, 1) := by decide +kernel
theorem dX9_addTrace_76 : decode cX9_addTrace 76 = .ok (.getfield 7, 3) := by decide +kernel
theorem dX9_addTrace_79 : decode cX9_addTrace 79 = .ok (.iload_n 1, 1) := by decide +kernel
theorem dX9_addTrace_80 : decode cX9_addTrace 80 = .ok (.bipush 40, 2) := by decide +kernel
theorem dX9_addTrace_82 : decode cX9_addTrace 82 = .ok (.iadd, 1) := by decide +kernel
theorem dX9_addTrace_83 : decode cX9_addTrace 83 = .ok (.dup2, 1) := by decide +kernel
theorem dX9_addTrace_84 : decode cX9_addTrace 84 = .ok (.iaload, 1) := by decide +kernel
theorem dX9_addTrace_85 : decode cX9_addTrace 85 = .ok (.aload_n 0, 1) := by decide +kernel
theorem dX9_addTrace_86 : decode cX9_addTrace 86 = .ok (.getfield 7, 3) := by decide +kernel
theorem dX9_addTrace_89 : decode cX9_addTrace 89 = .ok (.iload_n 1, 1) := by decide +kernel
theorem dX9_addTrace_90 : decode cX9_addTrace 90 = .ok (.bipush 40, 2) := by decide +kernel
theorem dX9_addTrace_92 : decode cX9_addTrace 92 = .ok (.iadd, 1) := by decide +kernel
theorem dX9_addTrace_93 : decode cX9_addTrace 93 = .ok (.iaload, 1) := by decide +kernel
theorem dX9_addTrace_94 : decode cX9_addTrace 94 = .ok (.bipush 32, 2) := by decide +kernel
theorem dX9_addTrace_96 : decode cX9_addTrace 96 = .ok (.if_icmp .ge 7, 3) := by decide +kernel
theorem dX9_addTrace_99 : decode cX9_addTrace 99 = .ok (.iconst 1, 1) := by decide +kernel
theorem dX9_addTrace_100 : decode cX9_addTrace 100 = .ok (.goto 4, 3) := by decide +kernel
theorem dX9_addTrace_103 : decode cX9_addTrace 103 = .ok (.iconst 0, 1) := by decide +kernel
theorem dX9_addTrace_104 : decode cX9_addTrace 104 = .ok (.iadd, 1) := by decide +kernel
theorem dX9_addTrace_105 : decode cX9_addTrace 105 = .ok (.iastore, 1) := by decide +kernel
theorem dX9_addTrace_106 : decode cX9_addTrace 106 = .ok (.return_, 1) := by decide +kernel
theorem dX9_slam_0 : decode cX9_slam 0 = .ok (.aload_n 0, 1) := by decide +kernel
theorem dX9_slam_1 : decode cX9_slam 1 = .ok (.iconst 1, 1) := by decide +kernel
theorem dX9_slam_2 : decode cX9_slam 2 = .ok (.putfield 49, 3) := by decide +kernel
theorem dX9_slam_5 : decode cX9_slam 5 = .ok (.aload_n 0, 1) := by decide +kernel
theorem dX9_slam_6 : decode cX9_slam 6 = .ok (.getfield 7, 3) := by decide +kernel
theorem dX9_slam_9 : decode cX9_slam 9 = .ok (.iload_n 1, 1) := by decide +kernel
theorem dX9_slam_10 : decode cX9_slam 10 = .ok (.bipush 7, 2) := by decide +kernel
theorem dX9_slam_12 : decode cX9_slam 12 = .ok (.iadd, 1) := by decide +kernel
theorem dX9_slam_13 : decode cX9_slam 13 = .ok (.iconst 1, 1) := by decide +kernel
theorem dX9_slam_14 : decode cX9_slam 14 = .ok (.iastore, 1) := by decide +kernel
theorem dX9_slam_15 : decode cX9_slam 15 = .ok (.aload_n 0, 1) := by decide +kernel
theorem dX9_slam_16 : decode cX9_slam 16 = .ok (.getfield 7, 3) := by decide +kernel
theorem dX9_slam_19 : decode cX9_slam 19 = .ok (.iload_n 1, 1) := by decide +kernel
theorem dX9_slam_20 : decode cX9_slam 20 = .ok (.bipush 16, 2) := by decide +kernel
theorem dX9_slam_22 : decode cX9_slam 22 = .ok (.iadd, 1) := by decide +kernel
theorem dX9_slam_23 : decode cX9_slam 23 = .ok (.dup2, 1) := by decide +kernel
theorem dX9_slam_24 : decode cX9_slam 24 = .ok (.iaload, 1) := by decide +kernel
theorem dX9_slam_25 : decode cX9_slam 25 = .ok (.iconst 1, 1) := by decide +kernel
theorem dX9_slam_26 : decode cX9_slam 26 = .ok (.iadd, 1) := by decide +kernel
theorem dX9_slam_27 : decode cX9_slam 27 = .ok (.iastore, 1) := by decide +kernel
theorem dX9_slam_28 : decode cX9_slam 28 = .ok (.iload_n 2, 1) := by decide +kernel
theorem dX9_slam_29 : decode cX9_slam 29 = .ok (.ifCond .lt 8, 3) := by decide +kernel
theorem dX9_slam_32 : decode cX9_slam 32 = .ok (.aload_n 0, 1) := by decide +kernel
theorem dX9_slam_33 : decode cX9_slam 33 = .ok (.iload_n 1, 1) := by decide +kernel
theorem dX9_slam_34 : decode cX9_slam 34 = .ok (.invokevirtual 53, 3) := by decide +kernel
theorem dX9_slam_37 : decode cX9_slam 37 = .ok (.aload_n 0, 1) := by decide +kernel
theorem dX9_slam_38 : decode cX9_slam 38 = .ok (.getfield 7, 3) := by decide +kernel
theorem dX9_slam_41 : decode cX9_slam 41 = .ok (.iload_n 1, 1) := by decide +kernel
theorem dX9_slam_42 : decode cX9_slam 42 = .ok (.bipush 14, 2) := by decide +kernel
theorem dX9_slam_44 : decode cX9_slam 44 = .ok (.iadd, 1) := by decide +kernel
theorem dX9_slam_45 : decode cX9_slam 45 = .ok (.iaload, 1) := by decide +kernel
theorem dX9_slam_46 : decode cX9_slam 46 = .ok (.istore_n 3, 1) := by decide +kernel
theorem dX9_slam_47 : decode cX9_slam 47 = .ok (.aload_n 0, 1) := by decide +kernel
theorem dX9_slam_48 : decode cX9_slam 48 = .ok (.iload_n 1, 1) := by decide +kernel
theorem dX9_slam_49 : decode cX9_slam 49 = .ok (.invokevirtual 57, 3) := by decide +kernel
theorem dX9_slam_52 : decode cX9_slam 52 = .ok (.istore 4, 2) := by decide +kernel
theorem dX9_slam_54 : decode cX9_slam 54 = .ok (.aload_n 0, 1) := by decide +kernel
theorem dX9_slam_55 : decode cX9_slam 55 = .ok (.getfield 7, 3) := by decide +kernel
theorem dX9_slam_58 : decode cX9_slam 58 = .ok (.iload_n 1, 1) := by decide +kernel
theorem dX9_slam_59 : decode cX9_slam 59 = .ok (.bipush 12, 2) := by decide +kernel
theorem dX9_slam_61 : decode cX9_slam 61 = .ok (.iadd, 1) := by decide +kernel
theorem dX9_slam_62 : decode cX9_slam 62 = .ok (.iaload, 1) := by decide +kernel
theorem dX9_slam_63 : decode cX9_slam 63 = .ok (.iconst 1, 1) := by decide +kernel
theorem dX9_slam_64 : decode cX9_slam 64 = .ok (.if_icmp .ne 45, 3) := by decide +kernel
theorem dX9_slam_67 : decode cX9_slam 67 = .ok (.aload_n 0, 1) := by decide +kernel
theorem dX9_slam_68 : decode cX9_slam 68 = .ok (.getfield 7, 3) := by decide +kernel
theorem dX9_slam_71 : decode cX9_slam 71 = .ok (.iload_n 1, 1) := by decide +kernel
theorem dX9_slam_72 : decode cX9_slam 72 = .ok (.bipush 14, 2) := by decide +kernel
theorem dX9_slam_74 : decode cX9_slam 74 = .ok (.iadd, 1) := by decide +kernel
theorem dX9_slam_75 : decode cX9_slam 75 = .ok (.iload_n 3, 1) := by decide +kernel
theorem dX9_slam_76 : decode cX9_slam 76 = .ok (.iconst 2, 1) := by decide +kernel
theorem dX9_slam_77 : decode cX9_slam 77 = .ok (.iadd, 1) := by decide +kernel
theorem dX9_slam_78 : decode cX9_slam 78 = .ok (.aload_n 0, 1) := by decide +kernel
theorem dX9_slam_79 : decode cX9_slam 79 = .ok (.getfield 7, 3) := by decide +kernel
theorem dX9_slam_82 : decode cX9_slam 82 = .ok (.iload_n 1, 1) := by decide +kernel
theorem dX9_slam_83 : decode cX9_slam 83 = .ok (.bipush 11, 2) := by decide +kernel
theorem dX9_slam_85 : decode cX9_slam 85 = .ok (.iadd, 1) := by decide +kernel
theorem dX9_slam_86 : decode cX9_slam 86 = .ok (.iaload, 1) := by decide +kernel
theorem dX9_slam_87 : decode cX9_slam 87 = .ok (.if_icmp .le 15, 3) := by decide +kernel
theorem dX9_slam_90 : decode cX9_slam 90 = .ok (.aload_n 0, 1) := by decide +kernel
theorem dX9_slam_91 : decode cX9_slam 91 = .ok (.getfield 7, 3) := by decide +kernel
theorem dX9_slam_94 : decode cX9_slam 94 = .ok (.iload_n 1, 1) := by decide +kernel
theorem dX9_slam_95 : decode cX9_slam 95 = .ok (.bipush 11, 2) := by decide +kernel
theorem dX9_slam_97 : decode cX9_slam 97 = .ok (.iadd, 1) := by decide +kernel
theorem dX9_slam_98 : decode cX9_slam 98 = .ok (.iaload, 1) := by decide +kernel
theorem dX9_slam_99 : decode cX9_slam 99 = .ok (.goto 6, 3) := by decide +kernel
theorem dX9_slam_102 : decode cX9_slam 102 = .ok (.iload_n 3, 1) := by decide +kernel
theorem dX9_slam_103 : decode cX9_slam 103 = .ok (.iconst 2, 1) := by decide +kernel
theorem dX9_slam_104 : decode cX9_slam 104 = .ok (.iadd, 1) := by decide +kernel
theorem dX9_slam_105 : decode cX9_slam 105 = .ok (.iastore, 1) := by decide +kernel
theorem dX9_slam_106 : decode cX9_slam 106 = .ok (.goto 28, 3) := by decide +kernel
theorem dX9_slam_109 : decode cX9_slam 109 = .ok (.aload_n 0, 1) := by decide +kernel
theorem dX9_slam_110 : decode cX9_slam 110 = .ok (.getfield 7, 3) := by decide +kernel
theorem dX9_slam_113 : decode cX9_slam 113 = .ok (.iload_n 1, 1) := by decide +kernel
theorem dX9_slam_114 : decode cX9_slam 114 = .ok (.bipush 14, 2) := by decide +kernel
theorem dX9_slam_116 : decode cX9_slam 116 = .ok (.iadd, 1) := by decide +kernel
theorem dX9_slam_117 : decode cX9_slam 117 = .ok (.iload_n 3, 1) := by decide +kernel
theorem dX9_slam_118 : decode cX9_slam 118 = .ok (.iconst 1, 1) := by decide +kernel
theorem dX9_slam_119 : decode cX9_slam 119 = .ok (.isub, 1) := by decide +kernel
theorem dX9_slam_120 : decode cX9_slam 120 = .ok (.iload 4, 2) := by decide +kernel
theorem dX9_slam_122 : decode cX9_slam 122 = .ok (.if_icmp .ge 8, 3) := by decide +kernel
theorem dX9_slam_125 : decode cX9_slam 125 = .ok (.iload 4, 2) := by decide +kernel
theorem dX9_slam_127 : decode cX9_slam 127 = .ok (.goto 6, 3) := by decide +kernel
theorem dX9_slam_130 : decode cX9_slam 130 = .ok (.iload_n 3, 1) := by decide +kernel
theorem dX9_slam_131 : decode cX9_slam 131 = .ok (.iconst 1, 1) := by decide +kernel
theorem dX9_slam_132 : decode cX9_slam 132 = .ok (.isub, 1) := by decide +kernel
theorem dX9_slam_133 : decode cX9_slam 133 = .ok (.iastore, 1) := by decide +kernel
theorem dX9_slam_134 : decode cX9_slam 134 = .ok (.iload_n 2, 1) := by decide +kernel
theorem dX9_slam_135 : decode cX9_slam 135 = .ok (.ifCond .lt 29, 3) := by decide +kernel
theorem dX9_slam_138 : decode cX9_slam 138 = .ok (.aload_n 0, 1) := by decide +kernel
theorem dX9_slam_139 : decode cX9_slam 139 = .ok (.getfield 7, 3) := by decide +kernel
theorem dX9_slam_142 : decode cX9_slam 142 = .ok (.iload_n 1, 1) := by decide +kernel
theorem dX9_slam_143 : decode cX9_slam 143 = .ok (.bipush 14, 2) := by decide +kernel
theorem dX9_slam_145 : decode cX9_slam 145 = .ok (.iadd, 1) := by decide +kernel
theorem dX9_slam_146 : decode cX9_slam 146 = .ok (.iaload, 1) := by decide +kernel
theorem dX9_slam_147 : decode cX9_slam 147 = .ok (.iload 4, 2) := by decide +kernel
theorem dX9_slam_149 : decode cX9_slam 149 = .ok (.if_icmp .ne 15, 3) := by decide +kernel
theorem dX9_slam_152 : decode cX9_slam 152 = .ok (.iload_n 3, 1) := by decide +kernel
theorem dX9_slam_153 : decode cX9_slam 153 = .ok (.iload 4, 2) := by decide +kernel
theorem dX9_slam_155 : decode cX9_slam 155 = .ok (.if_icmp .le 9, 3) := by decide +kernel
theorem dX9_slam_158 : decode cX9_slam 158 = .ok (.aload_n 0, 1) := by decide +kernel
theorem dX9_slam_159 : decode cX9_slam 159 = .ok (.iconst 4, 1) := by decide +kernel
theorem dX9_slam_160 : decode cX9_slam 160 = .ok (.iload_n 2, 1) := by decide +kernel
theorem dX9_slam_161 : decode cX9_slam 161 = .ok (.invokevirtual 60, 3) := by decide +kernel
theorem dX9_slam_164 : decode cX9_slam 164 = .ok (.return_, 1) := by decide +kernel
theorem dX9_gain_0 : decode cX9_gain 0 = .ok (.aload_n 0, 1) := by decide +kernel
theorem dX9_gain_1 : decode cX9_gain 1 = .ok (.getfield 7, 3) := by decide +kernel
theorem dX9_gain_4 : decode cX9_gain 4 = .ok (.iload_n 1, 1) := by decide +kernel
theorem dX9_gain_5 : decode cX9_gain 5 = .ok (.bipush 17, 2) := by decide +kernel
theorem dX9_gain_7 : decode cX9_gain 7 = .ok (.iadd, 1) := by decide +kernel
theorem dX9_gain_8 : decode cX9_gain 8 = .ok (.dup2, 1) := by decide +kernel
theorem dX9_gain_9 : decode cX9_gain 9 = .ok (.iaload, 1) := by decide +kernel
theorem dX9_gain_10 : decode cX9_gain 10 = .ok (.iload_n 3, 1) := by decide +kernel
theorem dX9_gain_11 : decode cX9_gain 11 = .ok (.iadd, 1) := by decide +kernel
theorem dX9_gain_12 : decode cX9_gain 12 = .ok (.iastore, 1) := by decide +kernel
theorem dX9_gain_13 : decode cX9_gain 13 = .ok (.aload_n 0, 1) := by decide +kernel
theorem dX9_gain_14 : decode cX9_gain 14 = .ok (.getfield 7, 3) := by decide +kernel
theorem dX9_gain_17 : decode cX9_gain 17 = .ok (.iload_n 1, 1) := by decide +kernel
theorem dX9_gain_18 : decode cX9_gain 18 = .ok (.bipush 6, 2) := by decide +kernel
theorem dX9_gain_20 : decode cX9_gain 20 = .ok (.iadd, 1) := by decide +kernel
theorem dX9_gain_21 : decode cX9_gain 21 = .ok (.iaload, 1) := by decide +kernel
theorem dX9_gain_22 : decode cX9_gain 22 = .ok (.istore 4, 2) := by decide +kernel
theorem dX9_gain_24 : decode cX9_gain 24 = .ok (.iload 4, 2) := by decide +kernel
theorem dX9_gain_26 : decode cX9_gain 26 = .ok (.bipush 100, 2) := by decide +kernel
theorem dX9_gain_28 : decode cX9_gain 28 = .ok (.aload_n 0, 1) := by decide +kernel
theorem dX9_gain_29 : decode cX9_gain 29 = .ok (.getfield 7, 3) := by decide +kernel
theorem dX9_gain_32 : decode cX9_gain 32 = .ok (.iload_n 1, 1) := by decide +kernel
theorem dX9_gain_33 : decode cX9_gain 33 = .ok (.iconst 0, 1) := by decide +kernel
theorem dX9_gain_34 : decode cX9_gain 34 = .ok (.iadd, 1) := by decide +kernel
theorem dX9_gain_35 : decode cX9_gain 35 = .ok (.iaload, 1) := by decide +kernel
theorem dX9_gain_36 : decode cX9_gain 36 = .ok (.imul, 1) := by decide +kernel
theorem dX9_gain_37 : decode cX9_gain 37 = .ok (.aload_n 0, 1) := by decide +kernel
theorem dX9_gain_38 : decode cX9_gain 38 = .ok (.getfield 7, 3) := by decide +kernel
theorem dX9_gain_41 : decode cX9_gain 41 = .ok (.iload_n 1, 1) := by decide +kernel
theorem dX9_gain_42 : decode cX9_gain 42 = .ok (.iconst 1, 1) := by decide +kernel
theorem dX9_gain_43 : decode cX9_gain 43 = .ok (.iadd, 1) := by decide +kernel
theorem dX9_gain_44 : decode cX9_gain 44 = .ok (.iaload, 1) := by decide +kernel
theorem dX9_gain_45 : decode cX9_gain 45 = .ok (.idiv, 1) := by decide +kernel
theorem dX9_gain_46 : decode cX9_gain 46 = .ok (.iadd, 1) := by decide +kernel
theorem dX9_gain_47 : decode cX9_gain 47 = .ok (.aload_n 0, 1) := by decide +kernel
theorem dX9_gain_48 : decode cX9_gain 48 = .ok (.getfield 7, 3) := by decide +kernel
theorem dX9_gain_51 : decode cX9_gain 51 = .ok (.iload_n 1, 1) := by decide +kernel
theorem dX9_gain_52 : decode cX9_gain 52 = .ok (.iconst 3, 1) := by decide +kernel
theorem dX9_gain_53 : decode cX9_gain 53 = .ok (.iadd, 1) := by decide +kernel
theorem dX9_gain_54 : decode cX9_gain 54 = .ok (.iaload, 1) := by decide +kernel
theorem dX9_gain_55 : decode cX9_gain 55 = .ok (.iload 4, 2) := by decide +kernel
theorem dX9_gain_57 : decode cX9_gain 57 = .ok (.imul, 1) := by decide +kernel
theorem dX9_gain_58 : decode cX9_gain 58 = .ok (.iload 4, 2) := by decide +kernel
theorem dX9_gain_60 : decode cX9_gain 60 = .ok (.imul, 1) := by decide +kernel
theorem dX9_gain_61 : decode cX9_gain 61 = .ok (.ldc 64, 2) := by decide +kernel
theorem dX9_gain_63 : decode cX9_gain 63 = .ok (.idiv, 1) := by decide +kernel
theorem dX9_gain_64 : decode cX9_gain 64 = .ok (.isub, 1) := by decide +kernel
theorem dX9_gain_65 : decode cX9_gain 65 = .ok (.istore 5, 2) := by decide +kernel
theorem dX9_gain_67 : decode cX9_gain 67 = .ok (.aload_n 0, 1) := by decide +kernel
theorem dX9_gain_68 : decode cX9_gain 68 = .ok (.getfield 7, 3) := by decide +kernel
theorem dX9_gain_71 : decode cX9_gain 71 = .ok (.iload_n 1, 1) := by decide +kernel
theorem dX9_gain_72 : decode cX9_gain 72 = .ok (.bipush 6, 2) := by decide +kernel
theorem dX9_gain_74 : decode cX9_gain 74 = .ok (.iadd, 1) := by decide +kernel
theorem dX9_gain_75 : decode cX9_gain 75 = .ok (.iload 5, 2) := by decide +kernel
theorem dX9_gain_77 : decode cX9_gain 77 = .ok (.ifCond .ge 7, 3) := by decide +kernel
theorem dX9_gain_80 : decode cX9_gain 80 = .ok (.iconst 0, 1) := by decide +kernel
theorem dX9_gain_81 : decode cX9_gain 81 = .ok (.goto 19, 3) := by decide +kernel
theorem dX9_gain_84 : decode cX9_gain 84 = .ok (.iload 5, 2) := by decide +kernel
theorem dX9_gain_86 : decode cX9_gain 86 = .ok (.sipush 2000, 3) := by decide +kernel
theorem dX9_gain_89 : decode cX9_gain 89 = .ok (.if_icmp .le 9, 3) := by decide +kernel
theorem dX9_gain_92 : decode cX9_gain 92 = .ok (.sipush 2000, 3) := by decide +kernel
theorem dX9_gain_95 : decode cX9_gain 95 = .ok (.goto 5, 3) := by decide +kernel
theorem dX9_gain_98 : decode cX9_gain 98 = .ok (.iload 5, 2) := by decide +kernel
theorem dX9_gain_100 : decode cX9_gain 100 = .ok (.iastore, 1) := by decide +kernel
theorem dX9_gain_101 : decode cX9_gain 101 = .ok (.aload_n 0, 1) := by decide +kernel
theorem dX9_gain_102 : decode cX9_gain 102 = .ok (.getfield 7, 3) := by decide +kernel
theorem dX9_gain_105 : decode cX9_gain 105 = .ok (.iload_n 1, 1) := by decide +kernel
theorem dX9_gain_106 : decode cX9_gain 106 = .ok (.bipush 8, 2) := by decide +kernel
theorem dX9_gain_108 : decode cX9_gain 108 = .ok (.iadd, 1) := by decide +kernel
theorem dX9_gain_109 : decode cX9_gain 109 = .ok (.dup2, 1) := by decide +kernel
theorem dX9_gain_110 : decode cX9_gain 110 = .ok (.iaload, 1) := by decide +kernel
theorem dX9_gain_111 : decode cX9_gain 111 = .ok (.iconst 1, 1) := by decide +kernel
theorem dX9_gain_112 : decode cX9_gain 112 = .ok (.iadd, 1) := by decide +kernel
theorem dX9_gain_113 : decode cX9_gain 113 = .ok (.iastore, 1) := by decide +kernel
theorem dX9_gain_114 : decode cX9_gain 114 = .ok (.aload_n 0, 1) := by decide +kernel
theorem dX9_gain_115 : decode cX9_gain 115 = .ok (.iload_n 1, 1) := by decide +kernel
theorem dX9_gain_116 : decode cX9_gain 116 = .ok (.invokevirtual 65, 3) := by decide +kernel
theorem dX9_gain_119 : decode cX9_gain 119 = .ok (.ifCond .eq 9, 3) := by decide +kernel
theorem dX9_gain_122 : decode cX9_gain 122 = .ok (.aload_n 0, 1) := by decide +kernel
theorem dX9_gain_123 : decode cX9_gain 123 = .ok (.iload_n 1, 1) := by decide +kernel
theorem dX9_gain_124 : decode cX9_gain 124 = .ok (.iload_n 2, 1) := by decide +kernel
theorem dX9_gain_125 : decode cX9_gain 125 = .ok (.invokevirtual 69, 3) := by decide +kernel
theorem dX9_gain_128 : decode cX9_gain 128 = .ok (.return_, 1) := by decide +kernel
theorem dX9_push_0 : decode cX9_push 0 = .ok (.aload_n 0, 1) := by decide +kernel
theorem dX9_push_1 : decode cX9_push 1 = .ok (.getfield 7, 3) := by decide +kernel
theorem dX9_push_4 : decode cX9_push 4 = .ok (.iload_n 1, 1) := by decide +kernel
theorem dX9_push_5 : decode cX9_push 5 = .ok (.bipush 11, 2) := by decide +kernel
theorem dX9_push_7 : decode cX9_push 7 = .ok (.iadd, 1) := by decide +kernel
theorem dX9_push_8 : decode cX9_push 8 = .ok (.iaload, 1) := by decide +kernel
theorem dX9_push_9 : decode cX9_push 9 = .ok (.aload_n 0, 1) := by decide +kernel
theorem dX9_push_10 : decode cX9_push 10 = .ok (.iload_n 1, 1) := by decide +kernel
theorem dX9_push_11 : decode cX9_push 11 = .ok (.invokevirtual 57, 3) := by decide +kernel
theorem dX9_push_14 : decode cX9_push 14 = .ok (.isub, 1) := by decide +kernel
theorem dX9_push_15 : decode cX9_push 15 = .ok (.aload_n 0, 1) := by decide +kernel
theorem dX9_push_16 : decode cX9_push 16 = .ok (.getfield 7, 3) := by decide +kernel
theorem dX9_push_19 : decode cX9_push 19 = .ok (.iload_n 1, 1) := by decide +kernel
theorem dX9_push_20 : decode cX9_push 20 = .ok (.bipush 13, 2) := by decide +kernel
theorem dX9_push_22 : decode cX9_push 22 = .ok (.iadd, 1) := by decide +kernel
theorem dX9_push_23 : decode cX9_push 23 = .ok (.iaload, 1) := by decide +kernel
theorem dX9_push_24 : decode cX9_push 24 = .ok (.isub, 1) := by decide +kernel
theorem dX9_push_25 : decode cX9_push 25 = .ok (.istore 4, 2) := by decide +kernel
theorem dX9_push_27 : decode cX9_push 27 = .ok (.iload_n 3, 1) := by decide +kernel
theorem dX9_push_28 : decode cX9_push 28 = .ok (.iload 4, 2) := by decide +kernel
theorem dX9_push_30 : decode cX9_push 30 = .ok (.if_icmp .ge 7, 3) := by decide +kernel
theorem dX9_push_33 : decode cX9_push 33 = .ok (.iload_n 3, 1) := by decide +kernel
theorem dX9_push_34 : decode cX9_push 34 = .ok (.goto 5, 3) := by decide +kernel
theorem dX9_push_37 : decode cX9_push 37 = .ok (.iload 4, 2) := by decide +kernel
theorem dX9_push_39 : decode cX9_push 39 = .ok (.istore 5, 2) := by decide +kernel
theorem dX9_push_41 : decode cX9_push 41 = .ok (.aload_n 0, 1) := by decide +kernel
theorem dX9_push_42 : decode cX9_push 42 = .ok (.getfield 7, 3) := by decide +kernel
theorem dX9_push_45 : decode cX9_push 45 = .ok (.iload_n 1, 1) := by decide +kernel
theorem dX9_push_46 : decode cX9_push 46 = .ok (.bipush 13, 2) := by decide +kernel
theorem dX9_push_48 : decode cX9_push 48 = .ok (.iadd, 1) := by decide +kernel
theorem dX9_push_49 : decode cX9_push 49 = .ok (.dup2, 1) := by decide +kernel
theorem dX9_push_50 : decode cX9_push 50 = .ok (.iaload, 1) := by decide +kernel
theorem dX9_push_51 : decode cX9_push 51 = .ok (.iload 5, 2) := by decide +kernel
theorem dX9_push_53 : decode cX9_push 53 = .ok (.iadd, 1) := by decide +kernel
theorem dX9_push_54 : decode cX9_push 54 = .ok (.iastore, 1) := by decide +kernel
theorem dX9_push_55 : decode cX9_push 55 = .ok (.aload_n 0, 1) := by decide +kernel
theorem dX9_push_56 : decode cX9_push 56 = .ok (.getfield 7, 3) := by decide +kernel
theorem dX9_push_59 : decode cX9_push 59 = .ok (.iload_n 1, 1) := by decide +kernel
theorem dX9_push_60 : decode cX9_push 60 = .ok (.bipush 18, 2) := by decide +kernel
theorem dX9_push_62 : decode cX9_push 62 = .ok (.iadd, 1) := by decide +kernel
theorem dX9_push_63 : decode cX9_push 63 = .ok (.dup2, 1) := by decide +kernel
theorem dX9_push_64 : decode cX9_push 64 = .ok (.iaload, 1) := by decide +kernel
theorem dX9_push_65 : decode cX9_push 65 = .ok (.iload_n 3, 1) := by decide +kernel
theorem dX9_push_66 : decode cX9_push 66 = .ok (.iload 5, 2) := by decide +kernel
theorem dX9_push_68 : decode cX9_push 68 = .ok (.isub, 1) := by decide +kernel
theorem dX9_push_69 : decode cX9_push 69 = .ok (.iadd, 1) := by decide +kernel
theorem dX9_push_70 : decode cX9_push 70 = .ok (.iastore, 1) := by decide +kernel
theorem dX9_push_71 : decode cX9_push 71 = .ok (.iload_n 2, 1) := by decide +kernel
theorem dX9_push_72 : decode cX9_push 72 = .ok (.ifCond .lt 15, 3) := by decide +kernel
theorem dX9_push_75 : decode cX9_push 75 = .ok (.iload_n 3, 1) := by decide +kernel
theorem dX9_push_76 : decode cX9_push 76 = .ok (.iload 5, 2) := by decide +kernel
theorem dX9_push_78 : decode cX9_push 78 = .ok (.if_icmp .le 9, 3) := by decide +kernel
theorem dX9_push_81 : decode cX9_push 81 = .ok (.aload_n 0, 1) := by decide +kernel
theorem dX9_push_82 : decode cX9_push 82 = .ok (.iconst 2, 1) := by decide +kernel
theorem dX9_push_83 : decode cX9_push 83 = .ok (.iload_n 2, 1) := by decide +kernel
theorem dX9_push_84 : decode cX9_push 84 = .ok (.invokevirtual 60, 3) := by decide +kernel
theorem dX9_push_87 : decode cX9_push 87 = .ok (.aload_n 0, 1) := by decide +kernel
theorem dX9_push_88 : decode cX9_push 88 = .ok (.iload_n 1, 1) := by decide +kernel
theorem dX9_push_89 : decode cX9_push 89 = .ok (.invokevirtual 72, 3) := by decide +kernel
theorem dX9_push_92 : decode cX9_push 92 = .ok (.aload_n 0, 1) := by decide +kernel
theorem dX9_push_93 : decode cX9_push 93 = .ok (.getfield 7, 3) := by decide +kernel
theorem dX9_push_96 : decode cX9_push 96 = .ok (.iload_n 1, 1) := by decide +kernel
theorem dX9_push_97 : decode cX9_push 97 = .ok (.iconst 0, 1) := by decide +kernel
theorem dX9_push_98 : decode cX9_push 98 = .ok (.iadd, 1) := by decide +kernel
theorem dX9_push_99 : decode cX9_push 99 = .ok (.iaload, 1) := by decide +kernel
theorem dX9_push_100 : decode cX9_push 100 = .ok (.isub, 1) := by decide +kernel
theorem dX9_push_101 : decode cX9_push 101 = .ok (.istore 6, 2) := by decide +kernel
theorem dX9_push_103 : decode cX9_push 103 = .ok (.iload 6, 2) := by decide +kernel
theorem dX9_push_105 : decode cX9_push 105 = .ok (.ifCond .ge 7, 3) := by decide +kernel
theorem dX9_push_108 : decode cX9_push 108 = .ok (.iconst 0, 1) := by decide +kernel
theorem dX9_push_109 : decode cX9_push 109 = .ok (.goto 5, 3) := by decide +kernel
theorem dX9_push_112 : decode cX9_push 112 = .ok (.iload 6, 2) := by decide +kernel
theorem dX9_push_114 : decode cX9_push 114 = .ok (.istore 7, 2) := by decide +kernel
theorem dX9_push_116 : decode cX9_push 116 = .ok (.aload_n 0, 1) := by decide +kernel
theorem dX9_push_117 : decode cX9_push 117 = .ok (.getfield 7, 3) := by decide +kernel
theorem dX9_push_120 : decode cX9_push 120 = .ok (.iload_n 1, 1) := by decide +kernel
theorem dX9_push_121 : decode cX9_push 121 = .ok (.bipush 6, 2) := by decide +kernel
theorem dX9_push_123 : decode cX9_push 123 = .ok (.iadd, 1) := by decide +kernel
theorem dX9_push_124 : decode cX9_push 124 = .ok (.dup2, 1) := by decide +kernel
theorem dX9_push_125 : decode cX9_push 125 = .ok (.iaload, 1) := by decide +kernel
theorem dX9_push_126 : decode cX9_push 126 = .ok (.iconst 1, 1) := by decide +kernel
theorem dX9_push_127 : decode cX9_push 127 = .ok (.bipush 100, 2) := by decide +kernel
theorem dX9_push_129 : decode cX9_push 129 = .ok (.iload 7, 2) := by decide +kernel
theorem dX9_push_131 : decode cX9_push 131 = .ok (.imul, 1) := by decide +kernel
theorem dX9_push_132 : decode cX9_push 132 = .ok (.aload_n 0, 1) := by decide +kernel
theorem dX9_push_133 : decode cX9_push 133 = .ok (.getfield 7, 3) := by decide +kernel
theorem dX9_push_136 : decode cX9_push 136 = .ok (.iload_n 1, 1) := by decide +kernel
theorem dX9_push_137 : decode cX9_push 137 = .ok (.iconst 1, 1) := by decide +kernel
theorem dX9_push_138 : decode cX9_push 138 = .ok (.iadd, 1) := by decide +kernel
theorem dX9_push_139 : decode cX9_push 139 = .ok (.iaload, 1) := by decide +kernel
theorem dX9_push_140 : decode cX9_push 140 = .ok (.idiv, 1) := by decide +kernel
theorem dX9_push_141 : decode cX9_push 141 = .ok (.iadd, 1) := by decide +kernel
theorem dX9_push_142 : decode cX9_push 142 = .ok (.isub, 1) := by decide +kernel
theorem dX9_push_143 : decode cX9_push 143 = .ok (.iastore, 1) := by decide +kernel
theorem dX9_push_144 : decode cX9_push 144 = .ok (.aload_n 0, 1) := by decide +kernel
theorem dX9_push_145 : decode cX9_push 145 = .ok (.getfield 7, 3) := by decide +kernel
theorem dX9_push_148 : decode cX9_push 148 = .ok (.iload_n 1, 1) := by decide +kernel
theorem dX9_push_149 : decode cX9_push 149 = .ok (.bipush 6, 2) := by decide +kernel
theorem dX9_push_151 : decode cX9_push 151 = .ok (.iadd, 1) := by decide +kernel
theorem dX9_push_152 : decode cX9_push 152 = .ok (.iaload, 1) := by decide +kernel
theorem dX9_push_153 : decode cX9_push 153 = .ok (.iconst 1, 1) := by decide +kernel
theorem dX9_push_154 : decode cX9_push 154 = .ok (.if_icmp .ge 8, 3) := by decide +kernel
theorem dX9_push_157 : decode cX9_push 157 = .ok (.aload_n 0, 1) := by decide +kernel
theorem dX9_push_158 : decode cX9_push 158 = .ok (.iload_n 1, 1) := by decide +kernel
theorem dX9_push_159 : decode cX9_push 159 = .ok (.invokevirtual 75, 3) := by decide +kernel
theorem dX9_push_162 : decode cX9_push 162 = .ok (.return_, 1) := by decide +kernel
theorem dX9_deliver_0 : decode cX9_deliver 0 = .ok (.aload_n 0, 1) := by decide +kernel
theorem dX9_deliver_1 : decode cX9_deliver 1 = .ok (.iload_n 1, 1) := by decide +kernel
theorem dX9_deliver_2 : decode cX9_deliver 2 = .ok (.invokevirtual 72, 3) := by decide +kernel
theorem dX9_deliver_5 : decode cX9_deliver 5 = .ok (.aload_n 0, 1) := by decide +kernel
theorem dX9_deliver_6 : decode cX9_deliver 6 = .ok (.getfield 7, 3) := by decide +kernel
theorem dX9_deliver_9 : decode cX9_deliver 9 = .ok (.iload_n 1, 1) := by decide +kernel
theorem dX9_deliver_10 : decode cX9_deliver 10 = .ok (.iconst 4, 1) := by decide +kernel
theorem dX9_deliver_11 : decode cX9_deliver 11 = .ok (.iadd, 1) := by decide +kernel
theorem dX9_deliver_12 : decode cX9_deliver 12 = .ok (.iaload, 1) := by decide +kernel
theorem dX9_deliver_13 : decode cX9_deliver 13 = .ok (.isub, 1) := by decide +kernel
theorem dX9_deliver_14 : decode cX9_deliver 14 = .ok (.istore_n 3, 1) := by decide +kernel
theorem dX9_deliver_15 : decode cX9_deliver 15 = .ok (.iload_n 3, 1) := by decide +kernel
theorem dX9_deliver_16 : decode cX9_deliver 16 = .ok (.ifCond .gt 4, 3) := by decide +kernel
theorem dX9_deliver_19 : decode cX9_deliver 19 = .ok (.return_, 1) := by decide +kernel
theorem dX9_deliver_20 : decode cX9_deliver 20 = .ok (.iconst 1, 1) := by decide +kernel
theorem dX9_deliver_21 : decode cX9_deliver 21 = .ok (.iload_n 3, 1) := by decide +kernel
theorem dX9_deliver_22 : decode cX9_deliver 22 = .ok (.bipush 10, 2) := by decide +kernel
theorem dX9_deliver_24 : decode cX9_deliver 24 = .ok (.idiv, 1) := by decide +kernel
theorem dX9_deliver_25 : decode cX9_deliver 25 = .ok (.iadd, 1) := by decide +kernel
theorem dX9_deliver_26 : decode cX9_deliver 26 = .ok (.istore 4, 2) := by decide +kernel
theorem dX9_deliver_28 : decode cX9_deliver 28 = .ok (.aload_n 0, 1) := by decide +kernel
theorem dX9_deliver_29 : decode cX9_deliver 29 = .ok (.getfield 7, 3) := by decide +kernel
theorem dX9_deliver_32 : decode cX9_deliver 32 = .ok (.iload_n 1, 1) := by decide +kernel
theorem dX9_deliver_33 : decode cX9_deliver 33 = .ok (.bipush 13, 2) := by decide +kernel
theorem dX9_deliver_35 : decode cX9_deliver 35 = .ok (.iadd, 1) := by decide +kernel
theorem dX9_deliver_36 : decode cX9_deliver 36 = .ok (.iaload, 1) := by decide +kernel
theorem dX9_deliver_37 : decode cX9_deliver 37 = .ok (.iload 4, 2) := by decide +kernel
theorem dX9_deliver_39 : decode cX9_deliver 39 = .ok (.if_icmp .ge 15, 3) := by decide +kernel
theorem dX9_deliver_42 : decode cX9_deliver 42 = .ok (.aload_n 0, 1) := by decide +kernel
theorem dX9_deliver_43 : decode cX9_deliver 43 = .ok (.getfield 7, 3) := by decide +kernel
theorem dX9_deliver_46 : decode cX9_deliver 46 = .ok (.iload_n 1, 1) := by decide +kernel
theorem dX9_deliver_47 : decode cX9_deliver 47 = .ok (.bipush 13, 2) := by decide +kernel
theorem dX9_deliver_49 : decode cX9_deliver 49 = .ok (.iadd, 1) := by decide +kernel
theorem dX9_deliver_50 : decode cX9_deliver 50 = .ok (.iaload, 1) := by decide +kernel
theorem dX9_deliver_51 : decode cX9_deliver 51 = .ok (.goto 5, 3) := by decide +kernel
theorem dX9_deliver_54 : decode cX9_deliver 54 = .ok (.iload 4, 2) := by decide +kernel
theorem dX9_deliver_56 : decode cX9_deliver 56 = .ok (.istore 5, 2) := by decide +kernel
theorem dX9_deliver_58 : decode cX9_deliver 58 = .ok (.aload_n 0, 1) := by decide +kernel
theorem dX9_deliver_59 : decode cX9_deliver 59 = .ok (.getfield 7, 3) := by decide +kernel
theorem dX9_deliver_62 : decode cX9_deliver 62 = .ok (.iload_n 1, 1) := by decide +kernel
theorem dX9_deliver_63 : decode cX9_deliver 63 = .ok (.bipush 13, 2) := by decide +kernel
theorem dX9_deliver_65 : decode cX9_deliver 65 = .ok (.iadd, 1) := by decide +kernel
theorem dX9_deliver_66 : decode cX9_deliver 66 = .ok (.dup2, 1) := by decide +kernel
theorem dX9_deliver_67 : decode cX9_deliver 67 = .ok (.iaload, 1) := by decide +kernel
theorem dX9_deliver_68 : decode cX9_deliver 68 = .ok (.iload 5, 2) := by decide +kernel
theorem dX9_deliver_70 : decode cX9_deliver 70 = .ok (.isub, 1) := by decide +kernel
theorem dX9_deliver_71 : decode cX9_deliver 71 = .ok (.iastore, 1) := by decide +kernel
theorem dX9_deliver_72 : decode cX9_deliver 72 = .ok (.aload_n 0, 1) := by decide +kernel
theorem dX9_deliver_73 : decode cX9_deliver 73 = .ok (.getfield 7, 3) := by decide +kernel
theorem dX9_deliver_76 : decode cX9_deliver 76 = .ok (.iload_n 1, 1) := by decide +kernel
theorem dX9_deliver_77 : decode cX9_deliver 77 = .ok (.bipush 19, 2) := by decide +kernel
theorem dX9_deliver_79 : decode cX9_deliver 79 = .ok (.iadd, 1) := by decide +kernel
theorem dX9_deliver_80 : decode cX9_deliver 80 = .ok (.dup2, 1) := by decide +kernel
theorem dX9_deliver_81 : decode cX9_deliver 81 = .ok (.iaload, 1) := by decide +kernel
theorem dX9_deliver_82 : decode cX9_deliver 82 = .ok (.iload 5, 2) := by decide +kernel
theorem dX9_deliver_84 : decode cX9_deliver 84 = .ok (.iadd, 1) := by decide +kernel
theorem dX9_deliver_85 : decode cX9_deliver 85 = .ok (.iastore, 1) := by decide +kernel
theorem dX9_deliver_86 : decode cX9_deliver 86 = .ok (.aload_n 0, 1) := by decide +kernel
theorem dX9_deliver_87 : decode cX9_deliver 87 = .ok (.getfield 7, 3) := by decide +kernel
theorem dX9_deliver_90 : decode cX9_deliver 90 = .ok (.iload_n 1, 1) := by decide +kernel
theorem dX9_deliver_91 : decode cX9_deliver 91 = .ok (.bipush 15, 2) := by decide +kernel
theorem dX9_deliver_93 : decode cX9_deliver 93 = .ok (.iadd, 1) := by decide +kernel
theorem dX9_deliver_94 : decode cX9_deliver 94 = .ok (.dup2, 1) := by decide +kernel
theorem dX9_deliver_95 : decode cX9_deliver 95 = .ok (.iaload, 1) := by decide +kernel
theorem dX9_deliver_96 : decode cX9_deliver 96 = .ok (.iload 5, 2) := by decide +kernel
theorem dX9_deliver_98 : decode cX9_deliver 98 = .ok (.iadd, 1) := by decide +kernel
theorem dX9_deliver_99 : decode cX9_deliver 99 = .ok (.iastore, 1) := by decide +kernel
theorem dX9_deliver_100 : decode cX9_deliver 100 = .ok (.aload_n 0, 1) := by decide +kernel
theorem dX9_deliver_101 : decode cX9_deliver 101 = .ok (.dup, 1) := by decide +kernel
theorem dX9_deliver_102 : decode cX9_deliver 102 = .ok (.getfield 78, 3) := by decide +kernel
theorem dX9_deliver_105 : decode cX9_deliver 105 = .ok (.iload 5, 2) := by decide +kernel
theorem dX9_deliver_107 : decode cX9_deliver 107 = .ok (.iadd, 1) := by decide +kernel
theorem dX9_deliver_108 : decode cX9_deliver 108 = .ok (.putfield 78, 3) := by decide +kernel
theorem dX9_deliver_111 : decode cX9_deliver 111 = .ok (.aload_n 0, 1) := by decide +kernel
theorem dX9_deliver_112 : decode cX9_deliver 112 = .ok (.getfield 7, 3) := by decide +kernel
theorem dX9_deliver_115 : decode cX9_deliver 115 = .ok (.iload_n 1, 1) := by decide +kernel
theorem dX9_deliver_116 : decode cX9_deliver 116 = .ok (.bipush 15, 2) := by decide +kernel
theorem dX9_deliver_118 : decode cX9_deliver 118 = .ok (.iadd, 1) := by decide +kernel
theorem dX9_deliver_119 : decode cX9_deliver 119 = .ok (.iaload, 1) := by decide +kernel
theorem dX9_deliver_120 : decode cX9_deliver 120 = .ok (.sipush 30000, 3) := by decide +kernel
theorem dX9_deliver_123 : decode cX9_deliver 123 = .ok (.if_icmp .le 50, 3) := by decide +kernel
theorem dX9_deliver_126 : decode cX9_deliver 126 = .ok (.aload_n 0, 1) := by decide +kernel
theorem dX9_deliver_127 : decode cX9_deliver 127 = .ok (.getfield 7, 3) := by decide +kernel
theorem dX9_deliver_130 : decode cX9_deliver 130 = .ok (.iload_n 1, 1) := by decide +kernel
theorem dX9_deliver_131 : decode cX9_deliver 131 = .ok (.bipush 20, 2) := by decide +kernel
theorem dX9_deliver_133 : decode cX9_deliver 133 = .ok (.iadd, 1) := by decide +kernel
theorem dX9_deliver_134 : decode cX9_deliver 134 = .ok (.dup2, 1) := by decide +kernel
theorem dX9_deliver_135 : decode cX9_deliver 135 = .ok (.iaload, 1) := by decide +kernel
theorem dX9_deliver_136 : decode cX9_deliver 136 = .ok (.aload_n 0, 1) := by decide +kernel
theorem dX9_deliver_137 : decode cX9_deliver 137 = .ok (.getfield 7, 3) := by decide +kernel
theorem dX9_deliver_140 : decode cX9_deliver 140 = .ok (.iload_n 1, 1) := by decide +kernel
theorem dX9_deliver_141 : decode cX9_deliver 141 = .ok (.bipush 15, 2) := by decide +kernel
theorem dX9_deliver_143 : decode cX9_deliver 143 = .ok (.iadd, 1) := by decide +kernel
theorem dX9_deliver_144 : decode cX9_deliver 144 = .ok (.iaload, 1) := by decide +kernel
theorem dX9_deliver_145 : decode cX9_deliver 145 = .ok (.sipush 30000, 3) := by decide +kernel
theorem dX9_deliver_148 : decode cX9_deliver 148 = .ok (.isub, 1) := by decide +kernel
theorem dX9_deliver_149 : decode cX9_deliver 149 = .ok (.iadd, 1) := by decide +kernel
theorem dX9_deliver_150 : decode cX9_deliver 150 = .ok (.iastore, 1) := by decide +kernel
theorem dX9_deliver_151 : decode cX9_deliver 151 = .ok (.aload_n 0, 1) := by decide +kernel
theorem dX9_deliver_152 : decode cX9_deliver 152 = .ok (.getfield 7, 3) := by decide +kernel
theorem dX9_deliver_155 : decode cX9_deliver 155 = .ok (.iload_n 1, 1) := by decide +kernel
theorem dX9_deliver_156 : decode cX9_deliver 156 = .ok (.bipush 15, 2) := by decide +kernel
theorem dX9_deliver_158 : decode cX9_deliver 158 = .ok (.iadd, 1) := by decide +kernel
theorem dX9_deliver_159 : decode cX9_deliver 159 = .ok (.sipush 30000, 3) := by decide +kernel
theorem dX9_deliver_162 : decode cX9_deliver 162 = .ok (.iastore, 1) := by decide +kernel
theorem dX9_deliver_163 : decode cX9_deliver 163 = .ok (.iload_n 2, 1) := by decide +kernel
theorem dX9_deliver_164 : decode cX9_deliver 164 = .ok (.ifCond .lt 9, 3) := by decide +kernel
theorem dX9_deliver_167 : decode cX9_deliver 167 = .ok (.aload_n 0, 1) := by decide +kernel
theorem dX9_deliver_168 : decode cX9_deliver 168 = .ok (.iconst 3, 1) := by decide +kernel
theorem dX9_deliver_169 : decode cX9_deliver 169 = .ok (.iload_n 2, 1) := by decide +kernel
theorem dX9_deliver_170 : decode cX9_deliver 170 = .ok (.invokevirtual 60, 3) := by decide +kernel
theorem dX9_deliver_173 : decode cX9_deliver 173 = .ok (.return_, 1) := by decide +kernel
theorem dX9_tick_0 : decode cX9_tick 0 = .ok (.aload_n 0, 1) := by decide +kernel
theorem dX9_tick_1 : decode cX9_tick 1 = .ok (.getfield 7, 3) := by decide +kernel
theorem dX9_tick_4 : decode cX9_tick 4 = .ok (.iload_n 1, 1) := by decide +kernel
theorem dX9_tick_5 : decode cX9_tick 5 = .ok (.iconst 2, 1) := by decide +kernel
theorem dX9_tick_6 : decode cX9_tick 6 = .ok (.iadd, 1) := by decide +kernel
theorem dX9_tick_7 : decode cX9_tick 7 = .ok (.iaload, 1) := by decide +kernel
theorem dX9_tick_8 : decode cX9_tick 8 = .ok (.aload_n 0, 1) := by decide +kernel
theorem dX9_tick_9 : decode cX9_tick 9 = .ok (.getfield 7, 3) := by decide +kernel
theorem dX9_tick_12 : decode cX9_tick 12 = .ok (.iload_n 1, 1) := by decide +kernel
theorem dX9_tick_13 : decode cX9_tick 13 = .ok (.bipush 6, 2) := by decide +kernel
theorem dX9_tick_15 : decode cX9_tick 15 = .ok (.iadd, 1) := by decide +kernel
theorem dX9_tick_16 : decode cX9_tick 16 = .ok (.iaload, 1) := by decide +kernel
theorem dX9_tick_17 : decode cX9_tick 17 = .ok (.imul, 1) := by decide +kernel
theorem dX9_tick_18 : decode cX9_tick 18 = .ok (.bipush 10, 2) := by decide +kernel
theorem dX9_tick_20 : decode cX9_tick 20 = .ok (.idiv, 1) := by decide +kernel
theorem dX9_tick_21 : decode cX9_tick 21 = .ok (.istore_n 3, 1) := by decide +kernel
theorem dX9_tick_22 : decode cX9_tick 22 = .ok (.iload_n 2, 1) := by decide +kernel
theorem dX9_tick_23 : decode cX9_tick 23 = .ok (.ifCond .lt 40, 3) := by decide +kernel
theorem dX9_tick_26 : decode cX9_tick 26 = .ok (.iload_n 3, 1) := by decide +kernel
theorem dX9_tick_27 : decode cX9_tick 27 = .ok (.aload_n 0, 1) := by decide +kernel
theorem dX9_tick_28 : decode cX9_tick 28 = .ok (.getfield 7, 3) := by decide +kernel
theorem dX9_tick_31 : decode cX9_tick 31 = .ok (.iconst 0, 1) := by decide +kernel
theorem dX9_tick_32 : decode cX9_tick 32 = .ok (.iaload, 1) := by decide +kernel
theorem dX9_tick_33 : decode cX9_tick 33 = .ok (.if_icmp .le 30, 3) := by decide +kernel
theorem dX9_tick_36 : decode cX9_tick 36 = .ok (.aload_n 0, 1) := by decide +kernel
theorem dX9_tick_37 : decode cX9_tick 37 = .ok (.iload_n 1, 1) := by decide +kernel
theorem dX9_tick_38 : decode cX9_tick 38 = .ok (.invokevirtual 75, 3) := by decide +kernel
theorem dX9_tick_41 : decode cX9_tick 41 = .ok (.aload_n 0, 1) := by decide +kernel
theorem dX9_tick_42 : decode cX9_tick 42 = .ok (.getfield 7, 3) := by decide +kernel
theorem dX9_tick_45 : decode cX9_tick 45 = .ok (.iload_n 1, 1) := by decide +kernel
theorem dX9_tick_46 : decode cX9_tick 46 = .ok (.bipush 21, 2) := by decide +kernel
theorem dX9_tick_48 : decode cX9_tick 48 = .ok (.iadd, 1) := by decide +kernel
theorem dX9_tick_49 : decode cX9_tick 49 = .ok (.dup2, 1) := by decide +kernel
theorem dX9_tick_50 : decode cX9_tick 50 = .ok (.iaload, 1) := by decide +kernel
theorem dX9_tick_51 : decode cX9_tick 51 = .ok (.iconst 1, 1) := by decide +kernel
theorem dX9_tick_52 : decode cX9_tick 52 = .ok (.iadd, 1) := by decide +kernel
theorem dX9_tick_53 : decode cX9_tick 53 = .ok (.iastore, 1) := by decide +kernel
theorem dX9_tick_54 : decode cX9_tick 54 = .ok (.aload_n 0, 1) := by decide +kernel
theorem dX9_tick_55 : decode cX9_tick 55 = .ok (.iconst 1, 1) := by decide +kernel
theorem dX9_tick_56 : decode cX9_tick 56 = .ok (.iload_n 2, 1) := by decide +kernel
theorem dX9_tick_57 : decode cX9_tick 57 = .ok (.invokevirtual 60, 3) := by decide +kernel
theorem dX9_tick_60 : decode cX9_tick 60 = .ok (.goto 60, 3) := by decide +kernel
theorem dX9_tick_63 : decode cX9_tick 63 = .ok (.aload_n 0, 1) := by decide +kernel
theorem dX9_tick_64 : decode cX9_tick 64 = .ok (.getfield 7, 3) := by decide +kernel
theorem dX9_tick_67 : decode cX9_tick 67 = .ok (.iconst 0, 1) := by decide +kernel
theorem dX9_tick_68 : decode cX9_tick 68 = .ok (.dup2, 1) := by decide +kernel
theorem dX9_tick_69 : decode cX9_tick 69 = .ok (.iaload, 1) := by decide +kernel
theorem dX9_tick_70 : decode cX9_tick 70 = .ok (.iload_n 2, 1) := by decide +kernel
theorem dX9_tick_71 : decode cX9_tick 71 = .ok (.ifCond .lt 7, 3) := by decide +kernel
theorem dX9_tick_74 : decode cX9_tick 74 = .ok (.iload_n 3, 1) := by decide +kernel
theorem dX9_tick_75 : decode cX9_tick 75 = .ok (.goto 4, 3) := by decide +kernel
theorem dX9_tick_78 : decode cX9_tick 78 = .ok (.iconst 0, 1) := by decide +kernel
theorem dX9_tick_79 : decode cX9_tick 79 = .ok (.isub, 1) := by decide +kernel
theorem dX9_tick_80 : decode cX9_tick 80 = .ok (.iastore, 1) := by decide +kernel
theorem dX9_tick_81 : decode cX9_tick 81 = .ok (.aload_n 0, 1) := by decide +kernel
theorem dX9_tick_82 : decode cX9_tick 82 = .ok (.dup, 1) := by decide +kernel
theorem dX9_tick_83 : decode cX9_tick 83 = .ok (.getfield 81, 3) := by decide +kernel
theorem dX9_tick_86 : decode cX9_tick 86 = .ok (.iload_n 3, 1) := by decide +kernel
theorem dX9_tick_87 : decode cX9_tick 87 = .ok (.iadd, 1) := by decide +kernel
theorem dX9_tick_88 : decode cX9_tick 88 = .ok (.putfield 81, 3) := by decide +kernel
theorem dX9_tick_91 : decode cX9_tick 91 = .ok (.aload_n 0, 1) := by decide +kernel
theorem dX9_tick_92 : decode cX9_tick 92 = .ok (.getfield 7, 3) := by decide +kernel
theorem dX9_tick_95 : decode cX9_tick 95 = .ok (.iload_n 1, 1) := by decide +kernel
theorem dX9_tick_96 : decode cX9_tick 96 = .ok (.bipush 7, 2) := by decide +kernel
theorem dX9_tick_98 : decode cX9_tick 98 = .ok (.iadd, 1) := by decide +kernel
theorem dX9_tick_99 : decode cX9_tick 99 = .ok (.iaload, 1) := by decide +kernel
theorem dX9_tick_100 : decode cX9_tick 100 = .ok (.ifCond .ne 13, 3) := by decide +kernel
theorem dX9_tick_103 : decode cX9_tick 103 = .ok (.aload_n 0, 1) := by decide +kernel
theorem dX9_tick_104 : decode cX9_tick 104 = .ok (.iload_n 1, 1) := by decide +kernel
theorem dX9_tick_105 : decode cX9_tick 105 = .ok (.iload_n 2, 1) := by decide +kernel
theorem dX9_tick_106 : decode cX9_tick 106 = .ok (.iload_n 3, 1) := by decide +kernel
theorem dX9_tick_107 : decode cX9_tick 107 = .ok (.invokevirtual 84, 3) := by decide +kernel
theorem dX9_tick_110 : decode cX9_tick 110 = .ok (.goto 10, 3) := by decide +kernel
theorem dX9_tick_113 : decode cX9_tick 113 = .ok (.aload_n 0, 1) := by decide +kernel
theorem dX9_tick_114 : decode cX9_tick 114 = .ok (.iload_n 1, 1) := by decide +kernel
theorem dX9_tick_115 : decode cX9_tick 115 = .ok (.iload_n 2, 1) := by decide +kernel
end
section
theorem dX9_tick_116 : decode cX9_tick 116 = .ok (.iload_n 3, 1) := by decide +kernel
theorem dX9_tick_117 : decode cX9_tick 117 = .ok (.invokevirtual 88, 3) := by decide +kernel
theorem dX9_tick_120 : decode cX9_tick 120 = .ok (.aload_n 0, 1) := by decide +kernel
theorem dX9_tick_121 : decode cX9_tick 121 = .ok (.iload_n 1, 1) := by decide +kernel
theorem dX9_tick_122 : decode cX9_tick 122 = .ok (.iload_n 2, 1) := by decide +kernel
theorem dX9_tick_123 : decode cX9_tick 123 = .ok (.invokevirtual 91, 3) := by decide +kernel
theorem dX9_tick_126 : decode cX9_tick 126 = .ok (.iload_n 2, 1) := by decide +kernel
theorem dX9_tick_127 : decode cX9_tick 127 = .ok (.ifCond .lt 8, 3) := by decide +kernel
theorem dX9_tick_130 : decode cX9_tick 130 = .ok (.aload_n 0, 1) := by decide +kernel
theorem dX9_tick_131 : decode cX9_tick 131 = .ok (.iload_n 1, 1) := by decide +kernel
theorem dX9_tick_132 : decode cX9_tick 132 = .ok (.invokevirtual 94, 3) := by decide +kernel
theorem dX9_tick_135 : decode cX9_tick 135 = .ok (.return_, 1) := by decide +kernel
theorem dX9_fill_0 : decode cX9_fill 0 = .ok (.aload_n 0, 1) := by decide +kernel
theorem dX9_fill_1 : decode cX9_fill 1 = .ok (.getfield 7, 3) := by decide +kernel
theorem dX9_fill_4 : decode cX9_fill 4 = .ok (.iconst 0, 1) := by decide +kernel
theorem dX9_fill_5 : decode cX9_fill 5 = .ok (.dup2, 1) := by decide +kernel
theorem dX9_fill_6 : decode cX9_fill 6 = .ok (.iaload, 1) := by decide +kernel
theorem dX9_fill_7 : decode cX9_fill 7 = .ok (.iload_n 1, 1) := by decide +kernel
theorem dX9_fill_8 : decode cX9_fill 8 = .ok (.iadd, 1) := by decide +kernel
theorem dX9_fill_9 : decode cX9_fill 9 = .ok (.iastore, 1) := by decide +kernel
theorem dX9_fill_10 : decode cX9_fill 10 = .ok (.aload_n 0, 1) := by decide +kernel
theorem dX9_fill_11 : decode cX9_fill 11 = .ok (.getfield 7, 3) := by decide +kernel
theorem dX9_fill_14 : decode cX9_fill 14 = .ok (.iconst 0, 1) := by decide +kernel
theorem dX9_fill_15 : decode cX9_fill 15 = .ok (.iaload, 1) := by decide +kernel
theorem dX9_fill_16 : decode cX9_fill 16 = .ok (.sipush 20000, 3) := by decide +kernel
theorem dX9_fill_19 : decode cX9_fill 19 = .ok (.if_icmp .le 31, 3) := by decide +kernel
theorem dX9_fill_22 : decode cX9_fill 22 = .ok (.aload_n 0, 1) := by decide +kernel
theorem dX9_fill_23 : decode cX9_fill 23 = .ok (.getfield 7, 3) := by decide +kernel
theorem dX9_fill_26 : decode cX9_fill 26 = .ok (.iconst 3, 1) := by decide +kernel
theorem dX9_fill_27 : decode cX9_fill 27 = .ok (.dup2, 1) := by decide +kernel
theorem dX9_fill_28 : decode cX9_fill 28 = .ok (.iaload, 1) := by decide +kernel
theorem dX9_fill_29 : decode cX9_fill 29 = .ok (.aload_n 0, 1) := by decide +kernel
theorem dX9_fill_30 : decode cX9_fill 30 = .ok (.getfield 7, 3) := by decide +kernel
theorem dX9_fill_33 : decode cX9_fill 33 = .ok (.iconst 0, 1) := by decide +kernel
theorem dX9_fill_34 : decode cX9_fill 34 = .ok (.iaload, 1) := by decide +kernel
theorem dX9_fill_35 : decode cX9_fill 35 = .ok (.sipush 20000, 3) := by decide +kernel
theorem dX9_fill_38 : decode cX9_fill 38 = .ok (.isub, 1) := by decide +kernel
theorem dX9_fill_39 : decode cX9_fill 39 = .ok (.iadd, 1) := by decide +kernel
theorem dX9_fill_40 : decode cX9_fill 40 = .ok (.iastore, 1) := by decide +kernel
theorem dX9_fill_41 : decode cX9_fill 41 = .ok (.aload_n 0, 1) := by decide +kernel
theorem dX9_fill_42 : decode cX9_fill 42 = .ok (.getfield 7, 3) := by decide +kernel
theorem dX9_fill_45 : decode cX9_fill 45 = .ok (.iconst 0, 1) := by decide +kernel
theorem dX9_fill_46 : decode cX9_fill 46 = .ok (.sipush 20000, 3) := by decide +kernel
theorem dX9_fill_49 : decode cX9_fill 49 = .ok (.iastore, 1) := by decide +kernel
theorem dX9_fill_50 : decode cX9_fill 50 = .ok (.return_, 1) := by decide +kernel
theorem dX9_passNow_0 : decode cX9_passNow 0 = .ok (.aload_n 0, 1) := by decide +kernel
theorem dX9_passNow_1 : decode cX9_passNow 1 = .ok (.iconst 0, 1) := by decide +kernel
theorem dX9_passNow_2 : decode cX9_passNow 2 = .ok (.putfield 78, 3) := by decide +kernel
theorem dX9_passNow_5 : decode cX9_passNow 5 = .ok (.iconst 0, 1) := by decide +kernel
theorem dX9_passNow_6 : decode cX9_passNow 6 = .ok (.istore_n 2, 1) := by decide +kernel
theorem dX9_passNow_7 : decode cX9_passNow 7 = .ok (.iload_n 2, 1) := by decide +kernel
theorem dX9_passNow_8 : decode cX9_passNow 8 = .ok (.iload_n 1, 1) := by decide +kernel
theorem dX9_passNow_9 : decode cX9_passNow 9 = .ok (.if_icmp .ge 71, 3) := by decide +kernel
theorem dX9_passNow_12 : decode cX9_passNow 12 = .ok (.aload_n 0, 1) := by decide +kernel
theorem dX9_passNow_13 : decode cX9_passNow 13 = .ok (.aload_n 0, 1) := by decide +kernel
theorem dX9_passNow_14 : decode cX9_passNow 14 = .ok (.getfield 7, 3) := by decide +kernel
theorem dX9_passNow_17 : decode cX9_passNow 17 = .ok (.iconst 1, 1) := by decide +kernel
theorem dX9_passNow_18 : decode cX9_passNow 18 = .ok (.iaload, 1) := by decide +kernel
theorem dX9_passNow_19 : decode cX9_passNow 19 = .ok (.invokevirtual 97, 3) := by decide +kernel
theorem dX9_passNow_22 : decode cX9_passNow 22 = .ok (.iconst 0, 1) := by decide +kernel
theorem dX9_passNow_23 : decode cX9_passNow 23 = .ok (.istore_n 3, 1) := by decide +kernel
theorem dX9_passNow_24 : decode cX9_passNow 24 = .ok (.iload_n 3, 1) := by decide +kernel
theorem dX9_passNow_25 : decode cX9_passNow 25 = .ok (.aload_n 0, 1) := by decide +kernel
theorem dX9_passNow_26 : decode cX9_passNow 26 = .ok (.getfield 7, 3) := by decide +kernel
theorem dX9_passNow_29 : decode cX9_passNow 29 = .ok (.iconst 4, 1) := by decide +kernel
theorem dX9_passNow_30 : decode cX9_passNow 30 = .ok (.iaload, 1) := by decide +kernel
theorem dX9_passNow_31 : decode cX9_passNow 31 = .ok (.if_icmp .ge 33, 3) := by decide +kernel
theorem dX9_passNow_34 : decode cX9_passNow 34 = .ok (.aload_n 0, 1) := by decide +kernel
theorem dX9_passNow_35 : decode cX9_passNow 35 = .ok (.getfield 7, 3) := by decide +kernel
theorem dX9_passNow_38 : decode cX9_passNow 38 = .ok (.iload_n 3, 1) := by decide +kernel
theorem dX9_passNow_39 : decode cX9_passNow 39 = .ok (.invokestatic 39, 3) := by decide +kernel
theorem dX9_passNow_42 : decode cX9_passNow 42 = .ok (.iconst 5, 1) := by decide +kernel
theorem dX9_passNow_43 : decode cX9_passNow 43 = .ok (.iadd, 1) := by decide +kernel
theorem dX9_passNow_44 : decode cX9_passNow 44 = .ok (.iaload, 1) := by decide +kernel
theorem dX9_passNow_45 : decode cX9_passNow 45 = .ok (.iconst 1, 1) := by decide +kernel
theorem dX9_passNow_46 : decode cX9_passNow 46 = .ok (.if_icmp .ne 12, 3) := by decide +kernel
theorem dX9_passNow_49 : decode cX9_passNow 49 = .ok (.aload_n 0, 1) := by decide +kernel
theorem dX9_passNow_50 : decode cX9_passNow 50 = .ok (.iload_n 3, 1) := by decide +kernel
theorem dX9_passNow_51 : decode cX9_passNow 51 = .ok (.invokestatic 39, 3) := by decide +kernel
theorem dX9_passNow_54 : decode cX9_passNow 54 = .ok (.iload_n 3, 1) := by decide +kernel
theorem dX9_passNow_55 : decode cX9_passNow 55 = .ok (.invokevirtual 100, 3) := by decide +kernel
theorem dX9_passNow_58 : decode cX9_passNow 58 = .ok (.iinc 3 1, 3) := by decide +kernel
theorem dX9_passNow_61 : decode cX9_passNow 61 = .ok (.goto (-37), 3) := by decide +kernel
theorem dX9_passNow_64 : decode cX9_passNow 64 = .ok (.aload_n 0, 1) := by decide +kernel
theorem dX9_passNow_65 : decode cX9_passNow 65 = .ok (.getfield 7, 3) := by decide +kernel
theorem dX9_passNow_68 : decode cX9_passNow 68 = .ok (.iconst 2, 1) := by decide +kernel
theorem dX9_passNow_69 : decode cX9_passNow 69 = .ok (.dup2, 1) := by decide +kernel
theorem dX9_passNow_70 : decode cX9_passNow 70 = .ok (.iaload, 1) := by decide +kernel
theorem dX9_passNow_71 : decode cX9_passNow 71 = .ok (.iconst 1, 1) := by decide +kernel
theorem dX9_passNow_72 : decode cX9_passNow 72 = .ok (.iadd, 1) := by decide +kernel
theorem dX9_passNow_73 : decode cX9_passNow 73 = .ok (.iastore, 1) := by decide +kernel
theorem dX9_passNow_74 : decode cX9_passNow 74 = .ok (.iinc 2 1, 3) := by decide +kernel
theorem dX9_passNow_77 : decode cX9_passNow 77 = .ok (.goto (-70), 3) := by decide +kernel
theorem dX9_passNow_80 : decode cX9_passNow 80 = .ok (.aload_n 0, 1) := by decide +kernel
theorem dX9_passNow_81 : decode cX9_passNow 81 = .ok (.getfield 78, 3) := by decide +kernel
theorem dX9_passNow_84 : decode cX9_passNow 84 = .ok (.ireturn, 1) := by decide +kernel
theorem dX9_addPump_0 : decode cX9_addPump 0 = .ok (.iload_n 1, 1) := by decide +kernel
theorem dX9_addPump_1 : decode cX9_addPump 1 = .ok (.bipush 10, 2) := by decide +kernel
theorem dX9_addPump_3 : decode cX9_addPump 3 = .ok (.bipush 99, 2) := by decide +kernel
theorem dX9_addPump_5 : decode cX9_addPump 5 = .ok (.invokestatic 35, 3) := by decide +kernel
theorem dX9_addPump_8 : decode cX9_addPump 8 = .ok (.ifCond .eq 54, 3) := by decide +kernel
theorem dX9_addPump_11 : decode cX9_addPump 11 = .ok (.iload_n 2, 1) := by decide +kernel
theorem dX9_addPump_12 : decode cX9_addPump 12 = .ok (.bipush 10, 2) := by decide +kernel
theorem dX9_addPump_14 : decode cX9_addPump 14 = .ok (.sipush 400, 3) := by decide +kernel
theorem dX9_addPump_17 : decode cX9_addPump 17 = .ok (.invokestatic 35, 3) := by decide +kernel
theorem dX9_addPump_20 : decode cX9_addPump 20 = .ok (.ifCond .eq 42, 3) := by decide +kernel
theorem dX9_addPump_23 : decode cX9_addPump 23 = .ok (.iload_n 3, 1) := by decide +kernel
theorem dX9_addPump_24 : decode cX9_addPump 24 = .ok (.iconst 1, 1) := by decide +kernel
theorem dX9_addPump_25 : decode cX9_addPump 25 = .ok (.bipush 20, 2) := by decide +kernel
theorem dX9_addPump_27 : decode cX9_addPump 27 = .ok (.invokestatic 35, 3) := by decide +kernel
theorem dX9_addPump_30 : decode cX9_addPump 30 = .ok (.ifCond .eq 32, 3) := by decide +kernel
theorem dX9_addPump_33 : decode cX9_addPump 33 = .ok (.iload 4, 2) := by decide +kernel
theorem dX9_addPump_35 : decode cX9_addPump 35 = .ok (.iconst 0, 1) := by decide +kernel
theorem dX9_addPump_36 : decode cX9_addPump 36 = .ok (.bipush 100, 2) := by decide +kernel
theorem dX9_addPump_38 : decode cX9_addPump 38 = .ok (.invokestatic 35, 3) := by decide +kernel
theorem dX9_addPump_41 : decode cX9_addPump 41 = .ok (.ifCond .eq 21, 3) := by decide +kernel
theorem dX9_addPump_44 : decode cX9_addPump 44 = .ok (.iload 5, 2) := by decide +kernel
theorem dX9_addPump_46 : decode cX9_addPump 46 = .ok (.iload_n 1, 1) := by decide +kernel
theorem dX9_addPump_47 : decode cX9_addPump 47 = .ok (.iconst 1, 1) := by decide +kernel
theorem dX9_addPump_48 : decode cX9_addPump 48 = .ok (.iadd, 1) := by decide +kernel
theorem dX9_addPump_49 : decode cX9_addPump 49 = .ok (.sipush 500, 3) := by decide +kernel
theorem dX9_addPump_52 : decode cX9_addPump 52 = .ok (.invokestatic 35, 3) := by decide +kernel
theorem dX9_addPump_55 : decode cX9_addPump 55 = .ok (.ifCond .eq 7, 3) := by decide +kernel
theorem dX9_addPump_58 : decode cX9_addPump 58 = .ok (.iconst 1, 1) := by decide +kernel
theorem dX9_addPump_59 : decode cX9_addPump 59 = .ok (.goto 4, 3) := by decide +kernel
theorem dX9_addPump_62 : decode cX9_addPump 62 = .ok (.iconst 0, 1) := by decide +kernel
theorem dX9_addPump_63 : decode cX9_addPump 63 = .ok (.istore 6, 2) := by decide +kernel
theorem dX9_addPump_65 : decode cX9_addPump 65 = .ok (.iload 6, 2) := by decide +kernel
theorem dX9_addPump_67 : decode cX9_addPump 67 = .ok (.ifCond .ne 7, 3) := by decide +kernel
theorem dX9_addPump_70 : decode cX9_addPump 70 = .ok (.sipush (-1002), 3) := by decide +kernel
theorem dX9_addPump_73 : decode cX9_addPump 73 = .ok (.ireturn, 1) := by decide +kernel
theorem dX9_addPump_74 : decode cX9_addPump 74 = .ok (.aload_n 0, 1) := by decide +kernel
theorem dX9_addPump_75 : decode cX9_addPump 75 = .ok (.getfield 7, 3) := by decide +kernel
theorem dX9_addPump_78 : decode cX9_addPump 78 = .ok (.iconst 4, 1) := by decide +kernel
theorem dX9_addPump_79 : decode cX9_addPump 79 = .ok (.iaload, 1) := by decide +kernel
theorem dX9_addPump_80 : decode cX9_addPump 80 = .ok (.iconst 4, 1) := by decide +kernel
theorem dX9_addPump_81 : decode cX9_addPump 81 = .ok (.if_icmp .ne 7, 3) := by decide +kernel
theorem dX9_addPump_84 : decode cX9_addPump 84 = .ok (.sipush (-1004), 3) := by decide +kernel
theorem dX9_addPump_87 : decode cX9_addPump 87 = .ok (.ireturn, 1) := by decide +kernel
theorem dX9_addPump_88 : decode cX9_addPump 88 = .ok (.aload_n 0, 1) := by decide +kernel
theorem dX9_addPump_89 : decode cX9_addPump 89 = .ok (.invokevirtual 103, 3) := by decide +kernel
theorem dX9_addPump_92 : decode cX9_addPump 92 = .ok (.aload_n 0, 1) := by decide +kernel
theorem dX9_addPump_93 : decode cX9_addPump 93 = .ok (.getfield 7, 3) := by decide +kernel
theorem dX9_addPump_96 : decode cX9_addPump 96 = .ok (.iconst 4, 1) := by decide +kernel
theorem dX9_addPump_97 : decode cX9_addPump 97 = .ok (.iaload, 1) := by decide +kernel
theorem dX9_addPump_98 : decode cX9_addPump 98 = .ok (.invokestatic 39, 3) := by decide +kernel
theorem dX9_addPump_101 : decode cX9_addPump 101 = .ok (.istore 7, 2) := by decide +kernel
theorem dX9_addPump_103 : decode cX9_addPump 103 = .ok (.iconst 0, 1) := by decide +kernel
theorem dX9_addPump_104 : decode cX9_addPump 104 = .ok (.istore 8, 2) := by decide +kernel
theorem dX9_addPump_106 : decode cX9_addPump 106 = .ok (.iload 8, 2) := by decide +kernel
theorem dX9_addPump_108 : decode cX9_addPump 108 = .ok (.bipush 73, 2) := by decide +kernel
theorem dX9_addPump_110 : decode cX9_addPump 110 = .ok (.if_icmp .ge 20, 3) := by decide +kernel
theorem dX9_addPump_113 : decode cX9_addPump 113 = .ok (.aload_n 0, 1) := by decide +kernel
theorem dX9_addPump_114 : decode cX9_addPump 114 = .ok (.getfield 7, 3) := by decide +kernel
theorem dX9_addPump_117 : decode cX9_addPump 117 = .ok (.iload 7, 2) := by decide +kernel
theorem dX9_addPump_119 : decode cX9_addPump 119 = .ok (.iload 8, 2) := by decide +kernel
theorem dX9_addPump_121 : decode cX9_addPump 121 = .ok (.iadd, 1) := by decide +kernel
theorem dX9_addPump_122 : decode cX9_addPump 122 = .ok (.iconst 0, 1) := by decide +kernel
theorem dX9_addPump_123 : decode cX9_addPump 123 = .ok (.iastore, 1) := by decide +kernel
theorem dX9_addPump_124 : decode cX9_addPump 124 = .ok (.iinc 8 1, 3) := by decide +kernel
theorem dX9_addPump_127 : decode cX9_addPump 127 = .ok (.goto (-21), 3) := by decide +kernel
theorem dX9_addPump_130 : decode cX9_addPump 130 = .ok (.aload_n 0, 1) := by decide +kernel
theorem dX9_addPump_131 : decode cX9_addPump 131 = .ok (.getfield 7, 3) := by decide +kernel
theorem dX9_addPump_134 : decode cX9_addPump 134 = .ok (.iload 7, 2) := by decide +kernel
theorem dX9_addPump_136 : decode cX9_addPump 136 = .ok (.iconst 0, 1) := by decide +kernel
theorem dX9_addPump_137 : decode cX9_addPump 137 = .ok (.iadd, 1) := by decide +kernel
theorem dX9_addPump_138 : decode cX9_addPump 138 = .ok (.iload_n 1, 1) := by decide +kernel
theorem dX9_addPump_139 : decode cX9_addPump 139 = .ok (.iastore, 1) := by decide +kernel
theorem dX9_addPump_140 : decode cX9_addPump 140 = .ok (.aload_n 0, 1) := by decide +kernel
theorem dX9_addPump_141 : decode cX9_addPump 141 = .ok (.getfield 7, 3) := by decide +kernel
theorem dX9_addPump_144 : decode cX9_addPump 144 = .ok (.iload 7, 2) := by decide +kernel
theorem dX9_addPump_146 : decode cX9_addPump 146 = .ok (.iconst 1, 1) := by decide +kernel
theorem dX9_addPump_147 : decode cX9_addPump 147 = .ok (.iadd, 1) := by decide +kernel
theorem dX9_addPump_148 : decode cX9_addPump 148 = .ok (.iload_n 2, 1) := by decide +kernel
theorem dX9_addPump_149 : decode cX9_addPump 149 = .ok (.iastore, 1) := by decide +kernel
theorem dX9_addPump_150 : decode cX9_addPump 150 = .ok (.aload_n 0, 1) := by decide +kernel
theorem dX9_addPump_151 : decode cX9_addPump 151 = .ok (.getfield 7, 3) := by decide +kernel
theorem dX9_addPump_154 : decode cX9_addPump 154 = .ok (.iload 7, 2) := by decide +kernel
theorem dX9_addPump_156 : decode cX9_addPump 156 = .ok (.iconst 2, 1) := by decide +kernel
theorem dX9_addPump_157 : decode cX9_addPump 157 = .ok (.iadd, 1) := by decide +kernel
theorem dX9_addPump_158 : decode cX9_addPump 158 = .ok (.iload_n 3, 1) := by decide +kernel
theorem dX9_addPump_159 : decode cX9_addPump 159 = .ok (.iastore, 1) := by decide +kernel
theorem dX9_addPump_160 : decode cX9_addPump 160 = .ok (.aload_n 0, 1) := by decide +kernel
theorem dX9_addPump_161 : decode cX9_addPump 161 = .ok (.getfield 7, 3) := by decide +kernel
theorem dX9_addPump_164 : decode cX9_addPump 164 = .ok (.iload 7, 2) := by decide +kernel
theorem dX9_addPump_166 : decode cX9_addPump 166 = .ok (.iconst 3, 1) := by decide +kernel
theorem dX9_addPump_167 : decode cX9_addPump 167 = .ok (.iadd, 1) := by decide +kernel
theorem dX9_addPump_168 : decode cX9_addPump 168 = .ok (.iload 4, 2) := by decide +kernel
theorem dX9_addPump_170 : decode cX9_addPump 170 = .ok (.iastore, 1) := by decide +kernel
theorem dX9_addPump_171 : decode cX9_addPump 171 = .ok (.aload_n 0, 1) := by decide +kernel
theorem dX9_addPump_172 : decode cX9_addPump 172 = .ok (.getfield 7, 3) := by decide +kernel
theorem dX9_addPump_175 : decode cX9_addPump 175 = .ok (.iload 7, 2) := by decide +kernel
theorem dX9_addPump_177 : decode cX9_addPump 177 = .ok (.iconst 4, 1) := by decide +kernel
theorem dX9_addPump_178 : decode cX9_addPump 178 = .ok (.iadd, 1) := by decide +kernel
theorem dX9_addPump_179 : decode cX9_addPump 179 = .ok (.iload 5, 2) := by decide +kernel
theorem dX9_addPump_181 : decode cX9_addPump 181 = .ok (.iastore, 1) := by decide +kernel
theorem dX9_addPump_182 : decode cX9_addPump 182 = .ok (.aload_n 0, 1) := by decide +kernel
theorem dX9_addPump_183 : decode cX9_addPump 183 = .ok (.getfield 7, 3) := by decide +kernel
theorem dX9_addPump_186 : decode cX9_addPump 186 = .ok (.iload 7, 2) := by decide +kernel
theorem dX9_addPump_188 : decode cX9_addPump 188 = .ok (.bipush 10, 2) := by decide +kernel
theorem dX9_addPump_190 : decode cX9_addPump 190 = .ok (.iadd, 1) := by decide +kernel
theorem dX9_addPump_191 : decode cX9_addPump 191 = .ok (.bipush 60, 2) := by decide +kernel
theorem dX9_addPump_193 : decode cX9_addPump 193 = .ok (.iastore, 1) := by decide +kernel
theorem dX9_addPump_194 : decode cX9_addPump 194 = .ok (.aload_n 0, 1) := by decide +kernel
theorem dX9_addPump_195 : decode cX9_addPump 195 = .ok (.getfield 7, 3) := by decide +kernel
theorem dX9_addPump_198 : decode cX9_addPump 198 = .ok (.iload 7, 2) := by decide +kernel
theorem dX9_addPump_200 : decode cX9_addPump 200 = .ok (.bipush 11, 2) := by decide +kernel
theorem dX9_addPump_202 : decode cX9_addPump 202 = .ok (.iadd, 1) := by decide +kernel
theorem dX9_addPump_203 : decode cX9_addPump 203 = .ok (.sipush 400, 3) := by decide +kernel
theorem dX9_addPump_206 : decode cX9_addPump 206 = .ok (.iastore, 1) := by decide +kernel
theorem dX9_addPump_207 : decode cX9_addPump 207 = .ok (.aload_n 0, 1) := by decide +kernel
theorem dX9_addPump_208 : decode cX9_addPump 208 = .ok (.getfield 7, 3) := by decide +kernel
theorem dX9_addPump_211 : decode cX9_addPump 211 = .ok (.iload 7, 2) := by decide +kernel
theorem dX9_addPump_213 : decode cX9_addPump 213 = .ok (.bipush 14, 2) := by decide +kernel
theorem dX9_addPump_215 : decode cX9_addPump 215 = .ok (.iadd, 1) := by decide +kernel
theorem dX9_addPump_216 : decode cX9_addPump 216 = .ok (.sipush 400, 3) := by decide +kernel
theorem dX9_addPump_219 : decode cX9_addPump 219 = .ok (.iastore, 1) := by decide +kernel
theorem dX9_addPump_220 : decode cX9_addPump 220 = .ok (.aload_n 0, 1) := by decide +kernel
theorem dX9_addPump_221 : decode cX9_addPump 221 = .ok (.getfield 7, 3) := by decide +kernel
theorem dX9_addPump_224 : decode cX9_addPump 224 = .ok (.iconst 4, 1) := by decide +kernel
theorem dX9_addPump_225 : decode cX9_addPump 225 = .ok (.dup2, 1) := by decide +kernel
theorem dX9_addPump_226 : decode cX9_addPump 226 = .ok (.iaload, 1) := by decide +kernel
theorem dX9_addPump_227 : decode cX9_addPump 227 = .ok (.iconst 1, 1) := by decide +kernel
theorem dX9_addPump_228 : decode cX9_addPump 228 = .ok (.iadd, 1) := by decide +kernel
theorem dX9_addPump_229 : decode cX9_addPump 229 = .ok (.iastore, 1) := by decide +kernel
theorem dX9_addPump_230 : decode cX9_addPump 230 = .ok (.aload_n 0, 1) := by decide +kernel
theorem dX9_addPump_231 : decode cX9_addPump 231 = .ok (.getfield 7, 3) := by decide +kernel
theorem dX9_addPump_234 : decode cX9_addPump 234 = .ok (.iconst 4, 1) := by decide +kernel
theorem dX9_addPump_235 : decode cX9_addPump 235 = .ok (.iaload, 1) := by decide +kernel
theorem dX9_addPump_236 : decode cX9_addPump 236 = .ok (.iconst 1, 1) := by decide +kernel
theorem dX9_addPump_237 : decode cX9_addPump 237 = .ok (.isub, 1) := by decide +kernel
theorem dX9_addPump_238 : decode cX9_addPump 238 = .ok (.ireturn, 1) := by decide +kernel
theorem dX9_valveRefused_0 : decode cX9_valveRefused 0 = .ok (.aload_n 0, 1) := by decide +kernel
theorem dX9_valveRefused_1 : decode cX9_valveRefused 1 = .ok (.iload_n 1, 1) := by decide +kernel
theorem dX9_valveRefused_2 : decode cX9_valveRefused 2 = .ok (.invokevirtual 106, 3) := by decide +kernel
theorem dX9_valveRefused_5 : decode cX9_valveRefused 5 = .ok (.ifCond .ne 7, 3) := by decide +kernel
theorem dX9_valveRefused_8 : decode cX9_valveRefused 8 = .ok (.sipush (-1001), 3) := by decide +kernel
theorem dX9_valveRefused_11 : decode cX9_valveRefused 11 = .ok (.ireturn, 1) := by decide +kernel
theorem dX9_valveRefused_12 : decode cX9_valveRefused 12 = .ok (.iload_n 2, 1) := by decide +kernel
theorem dX9_valveRefused_13 : decode cX9_valveRefused 13 = .ok (.iconst 0, 1) := by decide +kernel
theorem dX9_valveRefused_14 : decode cX9_valveRefused 14 = .ok (.iconst 2, 1) := by decide +kernel
theorem dX9_valveRefused_15 : decode cX9_valveRefused 15 = .ok (.invokestatic 35, 3) := by decide +kernel
theorem dX9_valveRefused_18 : decode cX9_valveRefused 18 = .ok (.ifCond .eq 14, 3) := by decide +kernel
theorem dX9_valveRefused_21 : decode cX9_valveRefused 21 = .ok (.iload_n 3, 1) := by decide +kernel
theorem dX9_valveRefused_22 : decode cX9_valveRefused 22 = .ok (.iconst 1, 1) := by decide +kernel
theorem dX9_valveRefused_23 : decode cX9_valveRefused 23 = .ok (.sipush 500, 3) := by decide +kernel
theorem dX9_valveRefused_26 : decode cX9_valveRefused 26 = .ok (.invokestatic 35, 3) := by decide +kernel
theorem dX9_valveRefused_29 : decode cX9_valveRefused 29 = .ok (.ifCond .ne 7, 3) := by decide +kernel
theorem dX9_valveRefused_32 : decode cX9_valveRefused 32 = .ok (.sipush (-1002), 3) := by decide +kernel
theorem dX9_valveRefused_35 : decode cX9_valveRefused 35 = .ok (.ireturn, 1) := by decide +kernel
theorem dX9_valveRefused_36 : decode cX9_valveRefused 36 = .ok (.aload_n 0, 1) := by decide +kernel
theorem dX9_valveRefused_37 : decode cX9_valveRefused 37 = .ok (.getfield 7, 3) := by decide +kernel
theorem dX9_valveRefused_40 : decode cX9_valveRefused 40 = .ok (.iload_n 1, 1) := by decide +kernel
theorem dX9_valveRefused_41 : decode cX9_valveRefused 41 = .ok (.invokestatic 39, 3) := by decide +kernel
theorem dX9_valveRefused_44 : decode cX9_valveRefused 44 = .ok (.iconst 5, 1) := by decide +kernel
theorem dX9_valveRefused_45 : decode cX9_valveRefused 45 = .ok (.iadd, 1) := by decide +kernel
theorem dX9_valveRefused_46 : decode cX9_valveRefused 46 = .ok (.iaload, 1) := by decide +kernel
theorem dX9_valveRefused_47 : decode cX9_valveRefused 47 = .ok (.iconst 1, 1) := by decide +kernel
theorem dX9_valveRefused_48 : decode cX9_valveRefused 48 = .ok (.if_icmp .ne 9, 3) := by decide +kernel
theorem dX9_valveRefused_51 : decode cX9_valveRefused 51 = .ok (.sipush (-1003), 3) := by decide +kernel
theorem dX9_valveRefused_54 : decode cX9_valveRefused 54 = .ok (.goto 4, 3) := by decide +kernel
theorem dX9_valveRefused_57 : decode cX9_valveRefused 57 = .ok (.iconst 0, 1) := by decide +kernel
theorem dX9_valveRefused_58 : decode cX9_valveRefused 58 = .ok (.ireturn, 1) := by decide +kernel
theorem dX9_valveNow_0 : decode cX9_valveNow 0 = .ok (.iload_n 1, 1) := by decide +kernel
theorem dX9_valveNow_1 : decode cX9_valveNow 1 = .ok (.invokestatic 39, 3) := by decide +kernel
theorem dX9_valveNow_4 : decode cX9_valveNow 4 = .ok (.istore 4, 2) := by decide +kernel
theorem dX9_valveNow_6 : decode cX9_valveNow 6 = .ok (.aload_n 0, 1) := by decide +kernel
theorem dX9_valveNow_7 : decode cX9_valveNow 7 = .ok (.getfield 7, 3) := by decide +kernel
theorem dX9_valveNow_10 : decode cX9_valveNow 10 = .ok (.iload 4, 2) := by decide +kernel
theorem dX9_valveNow_12 : decode cX9_valveNow 12 = .ok (.bipush 10, 2) := by decide +kernel
theorem dX9_valveNow_14 : decode cX9_valveNow 14 = .ok (.iadd, 1) := by decide +kernel
theorem dX9_valveNow_15 : decode cX9_valveNow 15 = .ok (.iaload, 1) := by decide +kernel
theorem dX9_valveNow_16 : decode cX9_valveNow 16 = .ok (.istore 5, 2) := by decide +kernel
theorem dX9_valveNow_18 : decode cX9_valveNow 18 = .ok (.aload_n 0, 1) := by decide +kernel
theorem dX9_valveNow_19 : decode cX9_valveNow 19 = .ok (.getfield 7, 3) := by decide +kernel
theorem dX9_valveNow_22 : decode cX9_valveNow 22 = .ok (.iload 4, 2) := by decide +kernel
theorem dX9_valveNow_24 : decode cX9_valveNow 24 = .ok (.bipush 9, 2) := by decide +kernel
theorem dX9_valveNow_26 : decode cX9_valveNow 26 = .ok (.iadd, 1) := by decide +kernel
theorem dX9_valveNow_27 : decode cX9_valveNow 27 = .ok (.iload_n 2, 1) := by decide +kernel
theorem dX9_valveNow_28 : decode cX9_valveNow 28 = .ok (.iastore, 1) := by decide +kernel
theorem dX9_valveNow_29 : decode cX9_valveNow 29 = .ok (.aload_n 0, 1) := by decide +kernel
theorem dX9_valveNow_30 : decode cX9_valveNow 30 = .ok (.getfield 7, 3) := by decide +kernel
theorem dX9_valveNow_33 : decode cX9_valveNow 33 = .ok (.iload 4, 2) := by decide +kernel
theorem dX9_valveNow_35 : decode cX9_valveNow 35 = .ok (.bipush 10, 2) := by decide +kernel
theorem dX9_valveNow_37 : decode cX9_valveNow 37 = .ok (.iadd, 1) := by decide +kernel
theorem dX9_valveNow_38 : decode cX9_valveNow 38 = .ok (.iload_n 3, 1) := by decide +kernel
theorem dX9_valveNow_39 : decode cX9_valveNow 39 = .ok (.iastore, 1) := by decide +kernel
theorem dX9_valveNow_40 : decode cX9_valveNow 40 = .ok (.iload 5, 2) := by decide +kernel
theorem dX9_valveNow_42 : decode cX9_valveNow 42 = .ok (.ireturn, 1) := by decide +kernel
theorem dX9_setValve_0 : decode cX9_setValve 0 = .ok (.aload_n 0, 1) := by decide +kernel
theorem dX9_setValve_1 : decode cX9_setValve 1 = .ok (.iload_n 1, 1) := by decide +kernel
theorem dX9_setValve_2 : decode cX9_setValve 2 = .ok (.iload_n 2, 1) := by decide +kernel
theorem dX9_setValve_3 : decode cX9_setValve 3 = .ok (.iload_n 3, 1) := by decide +kernel
theorem dX9_setValve_4 : decode cX9_setValve 4 = .ok (.invokevirtual 109, 3) := by decide +kernel
theorem dX9_setValve_7 : decode cX9_setValve 7 = .ok (.istore 4, 2) := by decide +kernel
theorem dX9_setValve_9 : decode cX9_setValve 9 = .ok (.iload 4, 2) := by decide +kernel
theorem dX9_setValve_11 : decode cX9_setValve 11 = .ok (.ifCond .eq 6, 3) := by decide +kernel
theorem dX9_setValve_14 : decode cX9_setValve 14 = .ok (.iload 4, 2) := by decide +kernel
theorem dX9_setValve_16 : decode cX9_setValve 16 = .ok (.ireturn, 1) := by decide +kernel
theorem dX9_setValve_17 : decode cX9_setValve 17 = .ok (.aload_n 0, 1) := by decide +kernel
theorem dX9_setValve_18 : decode cX9_setValve 18 = .ok (.invokevirtual 103, 3) := by decide +kernel
theorem dX9_setValve_21 : decode cX9_setValve 21 = .ok (.aload_n 0, 1) := by decide +kernel
theorem dX9_setValve_22 : decode cX9_setValve 22 = .ok (.iload_n 1, 1) := by decide +kernel
theorem dX9_setValve_23 : decode cX9_setValve 23 = .ok (.iload_n 2, 1) := by decide +kernel
theorem dX9_setValve_24 : decode cX9_setValve 24 = .ok (.iload_n 3, 1) := by decide +kernel
theorem dX9_setValve_25 : decode cX9_setValve 25 = .ok (.invokevirtual 113, 3) := by decide +kernel
theorem dX9_setValve_28 : decode cX9_setValve 28 = .ok (.ireturn, 1) := by decide +kernel
theorem dX9_setChamber_0 : decode cX9_setChamber 0 = .ok (.aload_n 0, 1) := by decide +kernel
theorem dX9_setChamber_1 : decode cX9_setChamber 1 = .ok (.iload_n 1, 1) := by decide +kernel
theorem dX9_setChamber_2 : decode cX9_setChamber 2 = .ok (.invokevirtual 106, 3) := by decide +kernel
theorem dX9_setChamber_5 : decode cX9_setChamber 5 = .ok (.ifCond .ne 7, 3) := by decide +kernel
theorem dX9_setChamber_8 : decode cX9_setChamber 8 = .ok (.sipush (-1001), 3) := by decide +kernel
theorem dX9_setChamber_11 : decode cX9_setChamber 11 = .ok (.ireturn, 1) := by decide +kernel
theorem dX9_setChamber_12 : decode cX9_setChamber 12 = .ok (.iload_n 2, 1) := by decide +kernel
theorem dX9_setChamber_13 : decode cX9_setChamber 13 = .ok (.bipush 50, 2) := by decide +kernel
theorem dX9_setChamber_15 : decode cX9_setChamber 15 = .ok (.sipush 2000, 3) := by decide +kernel
theorem dX9_setChamber_18 : decode cX9_setChamber 18 = .ok (.invokestatic 35, 3) := by decide +kernel
theorem dX9_setChamber_21 : decode cX9_setChamber 21 = .ok (.ifCond .ne 7, 3) := by decide +kernel
theorem dX9_setChamber_24 : decode cX9_setChamber 24 = .ok (.sipush (-1002), 3) := by decide +kernel
theorem dX9_setChamber_27 : decode cX9_setChamber 27 = .ok (.ireturn, 1) := by decide +kernel
theorem dX9_setChamber_28 : decode cX9_setChamber 28 = .ok (.iload_n 1, 1) := by decide +kernel
theorem dX9_setChamber_29 : decode cX9_setChamber 29 = .ok (.invokestatic 39, 3) := by decide +kernel
theorem dX9_setChamber_32 : decode cX9_setChamber 32 = .ok (.istore 4, 2) := by decide +kernel
theorem dX9_setChamber_34 : decode cX9_setChamber 34 = .ok (.aload_n 0, 1) := by decide +kernel
theorem dX9_setChamber_35 : decode cX9_setChamber 35 = .ok (.getfield 7, 3) := by decide +kernel
theorem dX9_setChamber_38 : decode cX9_setChamber 38 = .ok (.iload 4, 2) := by decide +kernel
theorem dX9_setChamber_40 : decode cX9_setChamber 40 = .ok (.iconst 5, 1) := by decide +kernel
theorem dX9_setChamber_41 : decode cX9_setChamber 41 = .ok (.iadd, 1) := by decide +kernel
theorem dX9_setChamber_42 : decode cX9_setChamber 42 = .ok (.iaload, 1) := by decide +kernel
theorem dX9_setChamber_43 : decode cX9_setChamber 43 = .ok (.iconst 1, 1) := by decide +kernel
theorem dX9_setChamber_44 : decode cX9_setChamber 44 = .ok (.if_icmp .ne 7, 3) := by decide +kernel
theorem dX9_setChamber_47 : decode cX9_setChamber 47 = .ok (.sipush (-1003), 3) := by decide +kernel
theorem dX9_setChamber_50 : decode cX9_setChamber 50 = .ok (.ireturn, 1) := by decide +kernel
theorem dX9_setChamber_51 : decode cX9_setChamber 51 = .ok (.aload_n 0, 1) := by decide +kernel
theorem dX9_setChamber_52 : decode cX9_setChamber 52 = .ok (.invokevirtual 103, 3) := by decide +kernel
theorem dX9_setChamber_55 : decode cX9_setChamber 55 = .ok (.aload_n 0, 1) := by decide +kernel
theorem dX9_setChamber_56 : decode cX9_setChamber 56 = .ok (.getfield 7, 3) := by decide +kernel
theorem dX9_setChamber_59 : decode cX9_setChamber 59 = .ok (.iload 4, 2) := by decide +kernel
theorem dX9_setChamber_61 : decode cX9_setChamber 61 = .ok (.bipush 13, 2) := by decide +kernel
theorem dX9_setChamber_63 : decode cX9_setChamber 63 = .ok (.iadd, 1) := by decide +kernel
theorem dX9_setChamber_64 : decode cX9_setChamber 64 = .ok (.iaload, 1) := by decide +kernel
theorem dX9_setChamber_65 : decode cX9_setChamber 65 = .ok (.istore 5, 2) := by decide +kernel
theorem dX9_setChamber_67 : decode cX9_setChamber 67 = .ok (.aload_n 0, 1) := by decide +kernel
theorem dX9_setChamber_68 : decode cX9_setChamber 68 = .ok (.iload 5, 2) := by decide +kernel
theorem dX9_setChamber_70 : decode cX9_setChamber 70 = .ok (.invokevirtual 97, 3) := by decide +kernel
theorem dX9_setChamber_73 : decode cX9_setChamber 73 = .ok (.aload_n 0, 1) := by decide +kernel
theorem dX9_setChamber_74 : decode cX9_setChamber 74 = .ok (.getfield 7, 3) := by decide +kernel
theorem dX9_setChamber_77 : decode cX9_setChamber 77 = .ok (.iload 4, 2) := by decide +kernel
theorem dX9_setChamber_79 : decode cX9_setChamber 79 = .ok (.bipush 11, 2) := by decide +kernel
theorem dX9_setChamber_81 : decode cX9_setChamber 81 = .ok (.iadd, 1) := by decide +kernel
theorem dX9_setChamber_82 : decode cX9_setChamber 82 = .ok (.iload_n 2, 1) := by decide +kernel
theorem dX9_setChamber_83 : decode cX9_setChamber 83 = .ok (.iastore, 1) := by decide +kernel
theorem dX9_setChamber_84 : decode cX9_setChamber 84 = .ok (.aload_n 0, 1) := by decide +kernel
theorem dX9_setChamber_85 : decode cX9_setChamber 85 = .ok (.getfield 7, 3) := by decide +kernel
theorem dX9_setChamber_88 : decode cX9_setChamber 88 = .ok (.iload 4, 2) := by decide +kernel
theorem dX9_setChamber_90 : decode cX9_setChamber 90 = .ok (.bipush 12, 2) := by decide +kernel
theorem dX9_setChamber_92 : decode cX9_setChamber 92 = .ok (.iadd, 1) := by decide +kernel
theorem dX9_setChamber_93 : decode cX9_setChamber 93 = .ok (.iload_n 3, 1) := by decide +kernel
theorem dX9_setChamber_94 : decode cX9_setChamber 94 = .ok (.ifCond .eq 7, 3) := by decide +kernel
theorem dX9_setChamber_97 : decode cX9_setChamber 97 = .ok (.iconst 1, 1) := by decide +kernel
theorem dX9_setChamber_98 : decode cX9_setChamber 98 = .ok (.goto 4, 3) := by decide +kernel
theorem dX9_setChamber_101 : decode cX9_setChamber 101 = .ok (.iconst 0, 1) := by decide +kernel
theorem dX9_setChamber_102 : decode cX9_setChamber 102 = .ok (.iastore, 1) := by decide +kernel
theorem dX9_setChamber_103 : decode cX9_setChamber 103 = .ok (.aload_n 0, 1) := by decide +kernel
theorem dX9_setChamber_104 : decode cX9_setChamber 104 = .ok (.getfield 7, 3) := by decide +kernel
theorem dX9_setChamber_107 : decode cX9_setChamber 107 = .ok (.iload 4, 2) := by decide +kernel
theorem dX9_setChamber_109 : decode cX9_setChamber 109 = .ok (.bipush 13, 2) := by decide +kernel
theorem dX9_setChamber_111 : decode cX9_setChamber 111 = .ok (.iadd, 1) := by decide +kernel
theorem dX9_setChamber_112 : decode cX9_setChamber 112 = .ok (.iconst 0, 1) := by decide +kernel
theorem dX9_setChamber_113 : decode cX9_setChamber 113 = .ok (.iastore, 1) := by decide +kernel
theorem dX9_setChamber_114 : decode cX9_setChamber 114 = .ok (.aload_n 0, 1) := by decide +kernel
theorem dX9_setChamber_115 : decode cX9_setChamber 115 = .ok (.getfield 7, 3) := by decide +kernel
theorem dX9_setChamber_118 : decode cX9_setChamber 118 = .ok (.iload 4, 2) := by decide +kernel
theorem dX9_setChamber_120 : decode cX9_setChamber 120 = .ok (.bipush 14, 2) := by decide +kernel
theorem dX9_setChamber_122 : decode cX9_setChamber 122 = .ok (.iadd, 1) := by decide +kernel
theorem dX9_setChamber_123 : decode cX9_setChamber 123 = .ok (.iload_n 2, 1) := by decide +kernel
theorem dX9_setChamber_124 : decode cX9_setChamber 124 = .ok (.iastore, 1) := by decide +kernel
theorem dX9_setChamber_125 : decode cX9_setChamber 125 = .ok (.iload 5, 2) := by decide +kernel
theorem dX9_setChamber_127 : decode cX9_setChamber 127 = .ok (.ireturn, 1) := by decide +kernel
theorem dX9_inflowNow_0 : decode cX9_inflowNow 0 = .ok (.aload_n 0, 1) := by decide +kernel
theorem dX9_inflowNow_1 : decode cX9_inflowNow 1 = .ok (.getfield 7, 3) := by decide +kernel
theorem dX9_inflowNow_4 : decode cX9_inflowNow 4 = .ok (.iconst 1, 1) := by decide +kernel
theorem dX9_inflowNow_5 : decode cX9_inflowNow 5 = .ok (.iaload, 1) := by decide +kernel
theorem dX9_inflowNow_6 : decode cX9_inflowNow 6 = .ok (.istore_n 2, 1) := by decide +kernel
theorem dX9_inflowNow_7 : decode cX9_inflowNow 7 = .ok (.aload_n 0, 1) := by decide +kernel
theorem dX9_inflowNow_8 : decode cX9_inflowNow 8 = .ok (.getfield 7, 3) := by decide +kernel
theorem dX9_inflowNow_11 : decode cX9_inflowNow 11 = .ok (.iconst 1, 1) := by decide +kernel
theorem dX9_inflowNow_12 : decode cX9_inflowNow 12 = .ok (.iload_n 1, 1) := by decide +kernel
theorem dX9_inflowNow_13 : decode cX9_inflowNow 13 = .ok (.iastore, 1) := by decide +kernel
theorem dX9_inflowNow_14 : decode cX9_inflowNow 14 = .ok (.iload_n 2, 1) := by decide +kernel
theorem dX9_inflowNow_15 : decode cX9_inflowNow 15 = .ok (.ireturn, 1) := by decide +kernel
theorem dX9_setInflow_0 : decode cX9_setInflow 0 = .ok (.iload_n 1, 1) := by decide +kernel
theorem dX9_setInflow_1 : decode cX9_setInflow 1 = .ok (.iconst 0, 1) := by decide +kernel
theorem dX9_setInflow_2 : decode cX9_setInflow 2 = .ok (.sipush 500, 3) := by decide +kernel
theorem dX9_setInflow_5 : decode cX9_setInflow 5 = .ok (.invokestatic 35, 3) := by decide +kernel
theorem dX9_setInflow_8 : decode cX9_setInflow 8 = .ok (.ifCond .ne 7, 3) := by decide +kernel
theorem dX9_setInflow_11 : decode cX9_setInflow 11 = .ok (.sipush (-1002), 3) := by decide +kernel
theorem dX9_setInflow_14 : decode cX9_setInflow 14 = .ok (.ireturn, 1) := by decide +kernel
theorem dX9_setInflow_15 : decode cX9_setInflow 15 = .ok (.aload_n 0, 1) := by decide +kernel
theorem dX9_setInflow_16 : decode cX9_setInflow 16 = .ok (.invokevirtual 103, 3) := by decide +kernel
theorem dX9_setInflow_19 : decode cX9_setInflow 19 = .ok (.aload_n 0, 1) := by decide +kernel
theorem dX9_setInflow_20 : decode cX9_setInflow 20 = .ok (.iload_n 1, 1) := by decide +kernel
theorem dX9_setInflow_21 : decode cX9_setInflow 21 = .ok (.invokevirtual 116, 3) := by decide +kernel
theorem dX9_setInflow_24 : decode cX9_setInflow 24 = .ok (.ireturn, 1) := by decide +kernel
theorem dX9_runRefused_0 : decode cX9_runRefused 0 = .ok (.aload_n 0, 1) := by decide +kernel
theorem dX9_runRefused_1 : decode cX9_runRefused 1 = .ok (.iload_n 1, 1) := by decide +kernel
theorem dX9_runRefused_2 : decode cX9_runRefused 2 = .ok (.invokevirtual 106, 3) := by decide +kernel
theorem dX9_runRefused_5 : decode cX9_runRefused 5 = .ok (.ifCond .ne 9, 3) := by decide +kernel
theorem dX9_runRefused_8 : decode cX9_runRefused 8 = .ok (.sipush (-1001), 3) := by decide +kernel
theorem dX9_runRefused_11 : decode cX9_runRefused 11 = .ok (.goto 25, 3) := by decide +kernel
theorem dX9_runRefused_14 : decode cX9_runRefused 14 = .ok (.aload_n 0, 1) := by decide +kernel
theorem dX9_runRefused_15 : decode cX9_runRefused 15 = .ok (.getfield 7, 3) := by decide +kernel
theorem dX9_runRefused_18 : decode cX9_runRefused 18 = .ok (.iload_n 1, 1) := by decide +kernel
theorem dX9_runRefused_19 : decode cX9_runRefused 19 = .ok (.invokestatic 39, 3) := by decide +kernel
theorem dX9_runRefused_22 : decode cX9_runRefused 22 = .ok (.iconst 5, 1) := by decide +kernel
theorem dX9_runRefused_23 : decode cX9_runRefused 23 = .ok (.iadd, 1) := by decide +kernel
theorem dX9_runRefused_24 : decode cX9_runRefused 24 = .ok (.iaload, 1) := by decide +kernel
theorem dX9_runRefused_25 : decode cX9_runRefused 25 = .ok (.iload_n 2, 1) := by decide +kernel
theorem dX9_runRefused_26 : decode cX9_runRefused 26 = .ok (.if_icmp .ne 9, 3) := by decide +kernel
theorem dX9_runRefused_29 : decode cX9_runRefused 29 = .ok (.sipush (-1003), 3) := by decide +kernel
theorem dX9_runRefused_32 : decode cX9_runRefused 32 = .ok (.goto 4, 3) := by decide +kernel
theorem dX9_runRefused_35 : decode cX9_runRefused 35 = .ok (.iconst 0, 1) := by decide +kernel
theorem dX9_runRefused_36 : decode cX9_runRefused 36 = .ok (.ireturn, 1) := by decide +kernel
theorem dX9_startNow_0 : decode cX9_startNow 0 = .ok (.aload_n 0, 1) := by decide +kernel
theorem dX9_startNow_1 : decode cX9_startNow 1 = .ok (.getfield 7, 3) := by decide +kernel
theorem dX9_startNow_4 : decode cX9_startNow 4 = .ok (.iload_n 1, 1) := by decide +kernel
theorem dX9_startNow_5 : decode cX9_startNow 5 = .ok (.invokestatic 39, 3) := by decide +kernel
theorem dX9_startNow_8 : decode cX9_startNow 8 = .ok (.iconst 5, 1) := by decide +kernel
theorem dX9_startNow_9 : decode cX9_startNow 9 = .ok (.iadd, 1) := by decide +kernel
theorem dX9_startNow_10 : decode cX9_startNow 10 = .ok (.iconst 1, 1) := by decide +kernel
theorem dX9_startNow_11 : decode cX9_startNow 11 = .ok (.iastore, 1) := by decide +kernel
theorem dX9_startNow_12 : decode cX9_startNow 12 = .ok (.aload_n 0, 1) := by decide +kernel
theorem dX9_startNow_13 : decode cX9_startNow 13 = .ok (.getfield 7, 3) := by decide +kernel
theorem dX9_startNow_16 : decode cX9_startNow 16 = .ok (.iload_n 1, 1) := by decide +kernel
theorem dX9_startNow_17 : decode cX9_startNow 17 = .ok (.invokestatic 39, 3) := by decide +kernel
theorem dX9_startNow_20 : decode cX9_startNow 20 = .ok (.bipush 22, 2) := by decide +kernel
theorem dX9_startNow_22 : decode cX9_startNow 22 = .ok (.iadd, 1) := by decide +kernel
theorem dX9_startNow_23 : decode cX9_startNow 23 = .ok (.aload_n 0, 1) := by decide +kernel
theorem dX9_startNow_24 : decode cX9_startNow 24 = .ok (.getfield 7, 3) := by decide +kernel
theorem dX9_startNow_27 : decode cX9_startNow 27 = .ok (.iconst 2, 1) := by decide +kernel
theorem dX9_startNow_28 : decode cX9_startNow 28 = .ok (.iaload, 1) := by decide +kernel
theorem dX9_startNow_29 : decode cX9_startNow 29 = .ok (.iastore, 1) := by decide +kernel
theorem dX9_startNow_30 : decode cX9_startNow 30 = .ok (.aload_n 0, 1) := by decide +kernel
theorem dX9_startNow_31 : decode cX9_startNow 31 = .ok (.invokevirtual 119, 3) := by decide +kernel
theorem dX9_startNow_34 : decode cX9_startNow 34 = .ok (.ireturn, 1) := by decide +kernel
theorem dX9_start_0 : decode cX9_start 0 = .ok (.aload_n 0, 1) := by decide +kernel
theorem dX9_start_1 : decode cX9_start 1 = .ok (.iload_n 1, 1) := by decide +kernel
theorem dX9_start_2 : decode cX9_start 2 = .ok (.iconst 1, 1) := by decide +kernel
theorem dX9_start_3 : decode cX9_start 3 = .ok (.invokevirtual 123, 3) := by decide +kernel
theorem dX9_start_6 : decode cX9_start 6 = .ok (.istore_n 2, 1) := by decide +kernel
theorem dX9_start_7 : decode cX9_start 7 = .ok (.iload_n 2, 1) := by decide +kernel
theorem dX9_start_8 : decode cX9_start 8 = .ok (.ifCond .eq 5, 3) := by decide +kernel
theorem dX9_start_11 : decode cX9_start 11 = .ok (.iload_n 2, 1) := by decide +kernel
theorem dX9_start_12 : decode cX9_start 12 = .ok (.ireturn, 1) := by decide +kernel
theorem dX9_start_13 : decode cX9_start 13 = .ok (.aload_n 0, 1) := by decide +kernel
theorem dX9_start_14 : decode cX9_start 14 = .ok (.invokevirtual 103, 3) := by decide +kernel
theorem dX9_start_17 : decode cX9_start 17 = .ok (.aload_n 0, 1) := by decide +kernel
theorem dX9_start_18 : decode cX9_start 18 = .ok (.iload_n 1, 1) := by decide +kernel
theorem dX9_start_19 : decode cX9_start 19 = .ok (.invokevirtual 127, 3) := by decide +kernel
theorem dX9_start_22 : decode cX9_start 22 = .ok (.ireturn, 1) := by decide +kernel
theorem dX9_stopNow_0 : decode cX9_stopNow 0 = .ok (.aload_n 0, 1) := by decide +kernel
theorem dX9_stopNow_1 : decode cX9_stopNow 1 = .ok (.getfield 7, 3) := by decide +kernel
theorem dX9_stopNow_4 : decode cX9_stopNow 4 = .ok (.iload_n 1, 1) := by decide +kernel
theorem dX9_stopNow_5 : decode cX9_stopNow 5 = .ok (.invokestatic 39, 3) := by decide +kernel
theorem dX9_stopNow_8 : decode cX9_stopNow 8 = .ok (.iconst 5, 1) := by decide +kernel
theorem dX9_stopNow_9 : decode cX9_stopNow 9 = .ok (.iadd, 1) := by decide +kernel
theorem dX9_stopNow_10 : decode cX9_stopNow 10 = .ok (.iconst 0, 1) := by decide +kernel
theorem dX9_stopNow_11 : decode cX9_stopNow 11 = .ok (.iastore, 1) := by decide +kernel
theorem dX9_stopNow_12 : decode cX9_stopNow 12 = .ok (.aload_n 0, 1) := by decide +kernel
theorem dX9_stopNow_13 : decode cX9_stopNow 13 = .ok (.iload_n 1, 1) := by decide +kernel
theorem dX9_stopNow_14 : decode cX9_stopNow 14 = .ok (.invokestatic 39, 3) := by decide +kernel
theorem dX9_stopNow_17 : decode cX9_stopNow 17 = .ok (.invokevirtual 75, 3) := by decide +kernel
theorem dX9_stopNow_20 : decode cX9_stopNow 20 = .ok (.aload_n 0, 1) := by decide +kernel
theorem dX9_stopNow_21 : decode cX9_stopNow 21 = .ok (.invokevirtual 119, 3) := by decide +kernel
theorem dX9_stopNow_24 : decode cX9_stopNow 24 = .ok (.ireturn, 1) := by decide +kernel
theorem dX9_stop_0 : decode cX9_stop 0 = .ok (.aload_n 0, 1) := by decide +kernel
theorem dX9_stop_1 : decode cX9_stop 1 = .ok (.iload_n 1, 1) := by decide +kernel
theorem dX9_stop_2 : decode cX9_stop 2 = .ok (.iconst 0, 1) := by decide +kernel
theorem dX9_stop_3 : decode cX9_stop 3 = .ok (.invokevirtual 123, 3) := by decide +kernel
theorem dX9_stop_6 : decode cX9_stop 6 = .ok (.istore_n 2, 1) := by decide +kernel
theorem dX9_stop_7 : decode cX9_stop 7 = .ok (.iload_n 2, 1) := by decide +kernel
theorem dX9_stop_8 : decode cX9_stop 8 = .ok (.ifCond .eq 5, 3) := by decide +kernel
theorem dX9_stop_11 : decode cX9_stop 11 = .ok (.iload_n 2, 1) := by decide +kernel
theorem dX9_stop_12 : decode cX9_stop 12 = .ok (.ireturn, 1) := by decide +kernel
theorem dX9_stop_13 : decode cX9_stop 13 = .ok (.aload_n 0, 1) := by decide +kernel
theorem dX9_stop_14 : decode cX9_stop 14 = .ok (.invokevirtual 103, 3) := by decide +kernel
theorem dX9_stop_17 : decode cX9_stop 17 = .ok (.aload_n 0, 1) := by decide +kernel
theorem dX9_stop_18 : decode cX9_stop 18 = .ok (.iload_n 1, 1) := by decide +kernel
theorem dX9_stop_19 : decode cX9_stop 19 = .ok (.invokevirtual 130, 3) := by decide +kernel
theorem dX9_stop_22 : decode cX9_stop 22 = .ok (.ireturn, 1) := by decide +kernel
theorem dX9_tankRefused_0 : decode cX9_tankRefused 0 = .ok (.aload_n 0, 1) := by decide +kernel
theorem dX9_tankRefused_1 : decode cX9_tankRefused 1 = .ok (.iload_n 1, 1) := by decide +kernel
theorem dX9_tankRefused_2 : decode cX9_tankRefused 2 = .ok (.invokevirtual 106, 3) := by decide +kernel
theorem dX9_tankRefused_5 : decode cX9_tankRefused 5 = .ok (.ifCond .ne 9, 3) := by decide +kernel
theorem dX9_tankRefused_8 : decode cX9_tankRefused 8 = .ok (.sipush (-1001), 3) := by decide +kernel
theorem dX9_tankRefused_11 : decode cX9_tankRefused 11 = .ok (.goto 25, 3) := by decide +kernel
theorem dX9_tankRefused_14 : decode cX9_tankRefused 14 = .ok (.aload_n 0, 1) := by decide +kernel
theorem dX9_tankRefused_15 : decode cX9_tankRefused 15 = .ok (.getfield 7, 3) := by decide +kernel
theorem dX9_tankRefused_18 : decode cX9_tankRefused 18 = .ok (.iload_n 1, 1) := by decide +kernel
theorem dX9_tankRefused_19 : decode cX9_tankRefused 19 = .ok (.invokestatic 39, 3) := by decide +kernel
theorem dX9_tankRefused_22 : decode cX9_tankRefused 22 = .ok (.bipush 15, 2) := by decide +kernel
theorem dX9_tankRefused_24 : decode cX9_tankRefused 24 = .ok (.iadd, 1) := by decide +kernel
theorem dX9_tankRefused_25 : decode cX9_tankRefused 25 = .ok (.iaload, 1) := by decide +kernel
theorem dX9_tankRefused_26 : decode cX9_tankRefused 26 = .ok (.ifCond .ne 9, 3) := by decide +kernel
theorem dX9_tankRefused_29 : decode cX9_tankRefused 29 = .ok (.sipush (-1003), 3) := by decide +kernel
theorem dX9_tankRefused_32 : decode cX9_tankRefused 32 = .ok (.goto 4, 3) := by decide +kernel
theorem dX9_tankRefused_35 : decode cX9_tankRefused 35 = .ok (.iconst 0, 1) := by decide +kernel
theorem dX9_tankRefused_36 : decode cX9_tankRefused 36 = .ok (.ireturn, 1) := by decide +kernel
theorem dX9_tankNow_0 : decode cX9_tankNow 0 = .ok (.aload_n 0, 1) := by decide +kernel
theorem dX9_tankNow_1 : decode cX9_tankNow 1 = .ok (.getfield 7, 3) := by decide +kernel
theorem dX9_tankNow_4 : decode cX9_tankNow 4 = .ok (.iload_n 1, 1) := by decide +kernel
theorem dX9_tankNow_5 : decode cX9_tankNow 5 = .ok (.invokestatic 39, 3) := by decide +kernel
theorem dX9_tankNow_8 : decode cX9_tankNow 8 = .ok (.bipush 15, 2) := by decide +kernel
theorem dX9_tankNow_10 : decode cX9_tankNow 10 = .ok (.iadd, 1) := by decide +kernel
theorem dX9_tankNow_11 : decode cX9_tankNow 11 = .ok (.iaload, 1) := by decide +kernel
theorem dX9_tankNow_12 : decode cX9_tankNow 12 = .ok (.istore_n 2, 1) := by decide +kernel
theorem dX9_tankNow_13 : decode cX9_tankNow 13 = .ok (.aload_n 0, 1) := by decide +kernel
theorem dX9_tankNow_14 : decode cX9_tankNow 14 = .ok (.getfield 7, 3) := by decide +kernel
theorem dX9_tankNow_17 : decode cX9_tankNow 17 = .ok (.iload_n 1, 1) := by decide +kernel
theorem dX9_tankNow_18 : decode cX9_tankNow 18 = .ok (.invokestatic 39, 3) := by decide +kernel
theorem dX9_tankNow_21 : decode cX9_tankNow 21 = .ok (.bipush 15, 2) := by decide +kernel
theorem dX9_tankNow_23 : decode cX9_tankNow 23 = .ok (.iadd, 1) := by decide +kernel
theorem dX9_tankNow_24 : decode cX9_tankNow 24 = .ok (.iconst 0, 1) := by decide +kernel
theorem dX9_tankNow_25 : decode cX9_tankNow 25 = .ok (.iastore, 1) := by decide +kernel
theorem dX9_tankNow_26 : decode cX9_tankNow 26 = .ok (.iload_n 2, 1) := by decide +kernel
theorem dX9_tankNow_27 : decode cX9_tankNow 27 = .ok (.ireturn, 1) := by decide +kernel
theorem dX9_emptyTank_0 : decode cX9_emptyTank 0 = .ok (.aload_n 0, 1) := by decide +kernel
theorem dX9_emptyTank_1 : decode cX9_emptyTank 1 = .ok (.iload_n 1, 1) := by decide +kernel
theorem dX9_emptyTank_2 : decode cX9_emptyTank 2 = .ok (.invokevirtual 133, 3) := by decide +kernel
theorem dX9_emptyTank_5 : decode cX9_emptyTank 5 = .ok (.istore_n 2, 1) := by decide +kernel
theorem dX9_emptyTank_6 : decode cX9_emptyTank 6 = .ok (.iload_n 2, 1) := by decide +kernel
theorem dX9_emptyTank_7 : decode cX9_emptyTank 7 = .ok (.ifCond .eq 5, 3) := by decide +kernel
theorem dX9_emptyTank_10 : decode cX9_emptyTank 10 = .ok (.iload_n 2, 1) := by decide +kernel
theorem dX9_emptyTank_11 : decode cX9_emptyTank 11 = .ok (.ireturn, 1) := by decide +kernel
theorem dX9_emptyTank_12 : decode cX9_emptyTank 12 = .ok (.aload_n 0, 1) := by decide +kernel
theorem dX9_emptyTank_13 : decode cX9_emptyTank 13 = .ok (.invokevirtual 103, 3) := by decide +kernel
theorem dX9_emptyTank_16 : decode cX9_emptyTank 16 = .ok (.aload_n 0, 1) := by decide +kernel
theorem dX9_emptyTank_17 : decode cX9_emptyTank 17 = .ok (.iload_n 1, 1) := by decide +kernel
theorem dX9_emptyTank_18 : decode cX9_emptyTank 18 = .ok (.invokevirtual 136, 3) := by decide +kernel
theorem dX9_emptyTank_21 : decode cX9_emptyTank 21 = .ok (.ireturn, 1) := by decide +kernel
theorem dX9_passRefused_0 : decode cX9_passRefused 0 = .ok (.iload_n 1, 1) := by decide +kernel
theorem dX9_passRefused_1 : decode cX9_passRefused 1 = .ok (.iconst 1, 1) := by decide +kernel
theorem dX9_passRefused_2 : decode cX9_passRefused 2 = .ok (.sipush 200, 3) := by decide +kernel
theorem dX9_passRefused_5 : decode cX9_passRefused 5 = .ok (.invokestatic 35, 3) := by decide +kernel
theorem dX9_passRefused_8 : decode cX9_passRefused 8 = .ok (.ifCond .ne 9, 3) := by decide +kernel
theorem dX9_passRefused_11 : decode cX9_passRefused 11 = .ok (.sipush (-1002), 3) := by decide +kernel
theorem dX9_passRefused_14 : decode cX9_passRefused 14 = .ok (.goto 24, 3) := by decide +kernel
theorem dX9_passRefused_17 : decode cX9_passRefused 17 = .ok (.aload_n 0, 1) := by decide +kernel
theorem dX9_passRefused_18 : decode cX9_passRefused 18 = .ok (.getfield 7, 3) := by decide +kernel
theorem dX9_passRefused_21 : decode cX9_passRefused 21 = .ok (.iconst 2, 1) := by decide +kernel
theorem dX9_passRefused_22 : decode cX9_passRefused 22 = .ok (.iaload, 1) := by decide +kernel
theorem dX9_passRefused_23 : decode cX9_passRefused 23 = .ok (.iload_n 1, 1) := by decide +kernel
theorem dX9_passRefused_24 : decode cX9_passRefused 24 = .ok (.iadd, 1) := by decide +kernel
theorem dX9_passRefused_25 : decode cX9_passRefused 25 = .ok (.sipush 20000, 3) := by decide +kernel
theorem dX9_passRefused_28 : decode cX9_passRefused 28 = .ok (.if_icmp .le 9, 3) := by decide +kernel
theorem dX9_passRefused_31 : decode cX9_passRefused 31 = .ok (.sipush (-1003), 3) := by decide +kernel
theorem dX9_passRefused_34 : decode cX9_passRefused 34 = .ok (.goto 4, 3) := by decide +kernel
theorem dX9_passRefused_37 : decode cX9_passRefused 37 = .ok (.iconst 0, 1) := by decide +kernel
theorem dX9_passRefused_38 : decode cX9_passRefused 38 = .ok (.ireturn, 1) := by decide +kernel
theorem dX9_pass_0 : decode cX9_pass 0 = .ok (.aload_n 0, 1) := by decide +kernel
theorem dX9_pass_1 : decode cX9_pass 1 = .ok (.iload_n 1, 1) := by decide +kernel
theorem dX9_pass_2 : decode cX9_pass 2 = .ok (.invokevirtual 139, 3) := by decide +kernel
theorem dX9_pass_5 : decode cX9_pass 5 = .ok (.istore_n 2, 1) := by decide +kernel
theorem dX9_pass_6 : decode cX9_pass 6 = .ok (.iload_n 2, 1) := by decide +kernel
theorem dX9_pass_7 : decode cX9_pass 7 = .ok (.ifCond .eq 5, 3) := by decide +kernel
theorem dX9_pass_10 : decode cX9_pass 10 = .ok (.iload_n 2, 1) := by decide +kernel
theorem dX9_pass_11 : decode cX9_pass 11 = .ok (.ireturn, 1) := by decide +kernel
theorem dX9_pass_12 : decode cX9_pass 12 = .ok (.aload_n 0, 1) := by decide +kernel
theorem dX9_pass_13 : decode cX9_pass 13 = .ok (.invokevirtual 103, 3) := by decide +kernel
theorem dX9_pass_16 : decode cX9_pass 16 = .ok (.aload_n 0, 1) := by decide +kernel
theorem dX9_pass_17 : decode cX9_pass 17 = .ok (.iload_n 1, 1) := by decide +kernel
theorem dX9_pass_18 : decode cX9_pass 18 = .ok (.invokevirtual 142, 3) := by decide +kernel
theorem dX9_pass_21 : decode cX9_pass 21 = .ok (.ireturn, 1) := by decide +kernel
theorem dX9_type_0 : decode cX9_type 0 = .ok (.iload_n 1, 1) := by decide +kernel
theorem dX9_type_1 : decode cX9_type 1 = .ok (.bipush 33, 2) := by decide +kernel
theorem dX9_type_3 : decode cX9_type 3 = .ok (.bipush 126, 2) := by decide +kernel
theorem dX9_type_5 : decode cX9_type 5 = .ok (.invokestatic 35, 3) := by decide +kernel
theorem dX9_type_8 : decode cX9_type 8 = .ok (.ifCond .ne 7, 3) := by decide +kernel
theorem dX9_type_11 : decode cX9_type 11 = .ok (.sipush (-1002), 3) := by decide +kernel
theorem dX9_type_14 : decode cX9_type 14 = .ok (.ireturn, 1) := by decide +kernel
theorem dX9_type_15 : decode cX9_type 15 = .ok (.aload_n 0, 1) := by decide +kernel
theorem dX9_type_16 : decode cX9_type 16 = .ok (.getfield 145, 3) := by decide +kernel
theorem dX9_type_19 : decode cX9_type 19 = .ok (.bipush 40, 2) := by decide +kernel
theorem dX9_type_21 : decode cX9_type 21 = .ok (.if_icmp .ne 7, 3) := by decide +kernel
theorem dX9_type_24 : decode cX9_type 24 = .ok (.sipush (-1004), 3) := by decide +kernel
theorem dX9_type_27 : decode cX9_type 27 = .ok (.ireturn, 1) := by decide +kernel
theorem dX9_type_28 : decode cX9_type 28 = .ok (.aload_n 0, 1) := by decide +kernel
theorem dX9_type_29 : decode cX9_type 29 = .ok (.getfield 25, 3) := by decide +kernel
theorem dX9_type_32 : decode cX9_type 32 = .ok (.aload_n 0, 1) := by decide +kernel
theorem dX9_type_33 : decode cX9_type 33 = .ok (.getfield 145, 3) := by decide +kernel
theorem dX9_type_36 : decode cX9_type 36 = .ok (.iload_n 1, 1) := by decide +kernel
theorem dX9_type_37 : decode cX9_type 37 = .ok (.iastore, 1) := by decide +kernel
theorem dX9_type_38 : decode cX9_type 38 = .ok (.aload_n 0, 1) := by decide +kernel
theorem dX9_type_39 : decode cX9_type 39 = .ok (.dup, 1) := by decide +kernel
theorem dX9_type_40 : decode cX9_type 40 = .ok (.getfield 145, 3) := by decide +kernel
theorem dX9_type_43 : decode cX9_type 43 = .ok (.iconst 1, 1) := by decide +kernel
theorem dX9_type_44 : decode cX9_type 44 = .ok (.iadd, 1) := by decide +kernel
theorem dX9_type_45 : decode cX9_type 45 = .ok (.putfield 145, 3) := by decide +kernel
theorem dX9_type_48 : decode cX9_type 48 = .ok (.aload_n 0, 1) := by decide +kernel
theorem dX9_type_49 : decode cX9_type 49 = .ok (.getfield 145, 3) := by decide +kernel
theorem dX9_type_52 : decode cX9_type 52 = .ok (.ireturn, 1) := by decide +kernel
theorem dX9_clearText_0 : decode cX9_clearText 0 = .ok (.aload_n 0, 1) := by decide +kernel
theorem dX9_clearText_1 : decode cX9_clearText 1 = .ok (.getfield 145, 3) := by decide +kernel
theorem dX9_clearText_4 : decode cX9_clearText 4 = .ok (.istore_n 1, 1) := by decide +kernel
theorem dX9_clearText_5 : decode cX9_clearText 5 = .ok (.aload_n 0, 1) := by decide +kernel
theorem dX9_clearText_6 : decode cX9_clearText 6 = .ok (.iconst 0, 1) := by decide +kernel
theorem dX9_clearText_7 : decode cX9_clearText 7 = .ok (.putfield 145, 3) := by decide +kernel
theorem dX9_clearText_10 : decode cX9_clearText 10 = .ok (.iload_n 1, 1) := by decide +kernel
theorem dX9_clearText_11 : decode cX9_clearText 11 = .ok (.ireturn, 1) := by decide +kernel
theorem dX9_isDigit_0 : decode cX9_isDigit 0 = .ok (.aload_n 0, 1) := by decide +kernel
theorem dX9_isDigit_1 : decode cX9_isDigit 1 = .ok (.getfield 148, 3) := by decide +kernel
theorem dX9_isDigit_4 : decode cX9_isDigit 4 = .ok (.aload_n 0, 1) := by decide +kernel
theorem dX9_isDigit_5 : decode cX9_isDigit 5 = .ok (.getfield 145, 3) := by decide +kernel
theorem dX9_isDigit_8 : decode cX9_isDigit 8 = .ok (.if_icmp .ge 26, 3) := by decide +kernel
theorem dX9_isDigit_11 : decode cX9_isDigit 11 = .ok (.aload_n 0, 1) := by decide +kernel
theorem dX9_isDigit_12 : decode cX9_isDigit 12 = .ok (.getfield 25, 3) := by decide +kernel
theorem dX9_isDigit_15 : decode cX9_isDigit 15 = .ok (.aload_n 0, 1) := by decide +kernel
theorem dX9_isDigit_16 : decode cX9_isDigit 16 = .ok (.getfield 148, 3) := by decide +kernel
theorem dX9_isDigit_19 : decode cX9_isDigit 19 = .ok (.iaload, 1) := by decide +kernel
theorem dX9_isDigit_20 : decode cX9_isDigit 20 = .ok (.bipush 48, 2) := by decide +kernel
theorem dX9_isDigit_22 : decode cX9_isDigit 22 = .ok (.bipush 57, 2) := by decide +kernel
theorem dX9_isDigit_24 : decode cX9_isDigit 24 = .ok (.invokestatic 35, 3) := by decide +kernel
theorem dX9_isDigit_27 : decode cX9_isDigit 27 = .ok (.ifCond .eq 7, 3) := by decide +kernel
theorem dX9_isDigit_30 : decode cX9_isDigit 30 = .ok (.iconst 1, 1) := by decide +kernel
theorem dX9_isDigit_31 : decode cX9_isDigit 31 = .ok (.goto 4, 3) := by decide +kernel
theorem dX9_isDigit_34 : decode cX9_isDigit 34 = .ok (.iconst 0, 1) := by decide +kernel
theorem dX9_isDigit_35 : decode cX9_isDigit 35 = .ok (.ireturn, 1) := by decide +kernel
theorem dX9_digit_0 : decode cX9_digit 0 = .ok (.aload_n 0, 1) := by decide +kernel
theorem dX9_digit_1 : decode cX9_digit 1 = .ok (.aload_n 0, 1) := by decide +kernel
theorem dX9_digit_2 : decode cX9_digit 2 = .ok (.getfield 151, 3) := by decide +kernel
theorem dX9_digit_5 : decode cX9_digit 5 = .ok (.ifCond .ne 10, 3) := by decide +kernel
theorem dX9_digit_8 : decode cX9_digit 8 = .ok (.aload_n 0, 1) := by decide +kernel
theorem dX9_digit_9 : decode cX9_digit 9 = .ok (.invokevirtual 154, 3) := by decide +kernel
theorem dX9_digit_12 : decode cX9_digit 12 = .ok (.ifCond .ne 7, 3) := by decide +kernel
theorem dX9_digit_15 : decode cX9_digit 15 = .ok (.iconst 1, 1) := by decide +kernel
theorem dX9_digit_16 : decode cX9_digit 16 = .ok (.goto 4, 3) := by decide +kernel
theorem dX9_digit_19 : decode cX9_digit 19 = .ok (.iconst 0, 1) := by decide +kernel
theorem dX9_digit_20 : decode cX9_digit 20 = .ok (.putfield 151, 3) := by decide +kernel
theorem dX9_digit_23 : decode cX9_digit 23 = .ok (.aload_n 0, 1) := by decide +kernel
theorem dX9_digit_24 : decode cX9_digit 24 = .ok (.getfield 151, 3) := by decide +kernel
theorem dX9_digit_27 : decode cX9_digit 27 = .ok (.ifCond .eq 7, 3) := by decide +kernel
theorem dX9_digit_30 : decode cX9_digit 30 = .ok (.iconst 0, 1) := by decide +kernel
theorem dX9_digit_31 : decode cX9_digit 31 = .ok (.goto 15, 3) := by decide +kernel
theorem dX9_digit_34 : decode cX9_digit 34 = .ok (.aload_n 0, 1) := by decide +kernel
theorem dX9_digit_35 : decode cX9_digit 35 = .ok (.getfield 25, 3) := by decide +kernel
theorem dX9_digit_38 : decode cX9_digit 38 = .ok (.aload_n 0, 1) := by decide +kernel
theorem dX9_digit_39 : decode cX9_digit 39 = .ok (.getfield 148, 3) := by decide +kernel
theorem dX9_digit_42 : decode cX9_digit 42 = .ok (.iaload, 1) := by decide +kernel
theorem dX9_digit_43 : decode cX9_digit 43 = .ok (.bipush 48, 2) := by decide +kernel
theorem dX9_digit_45 : decode cX9_digit 45 = .ok (.isub, 1) := by decide +kernel
theorem dX9_digit_46 : decode cX9_digit 46 = .ok (.istore_n 1, 1) := by decide +kernel
theorem dX9_digit_47 : decode cX9_digit 47 = .ok (.aload_n 0, 1) := by decide +kernel
theorem dX9_digit_48 : decode cX9_digit 48 = .ok (.dup, 1) := by decide +kernel
theorem dX9_digit_49 : decode cX9_digit 49 = .ok (.getfield 148, 3) := by decide +kernel
theorem dX9_digit_52 : decode cX9_digit 52 = .ok (.aload_n 0, 1) := by decide +kernel
theorem dX9_digit_53 : decode cX9_digit 53 = .ok (.getfield 151, 3) := by decide +kernel
theorem dX9_digit_56 : decode cX9_digit 56 = .ok (.ifCond .eq 7, 3) := by decide +kernel
theorem dX9_digit_59 : decode cX9_digit 59 = .ok (.iconst 0, 1) := by decide +kernel
theorem dX9_digit_60 : decode cX9_digit 60 = .ok (.goto 4, 3) := by decide +kernel
theorem dX9_digit_63 : decode cX9_digit 63 = .ok (.iconst 1, 1) := by decide +kernel
theorem dX9_digit_64 : decode cX9_digit 64 = .ok (.iadd, 1) := by decide +kernel
theorem dX9_digit_65 : decode cX9_digit 65 = .ok (.putfield 148, 3) := by decide +kernel
theorem dX9_digit_68 : decode cX9_digit 68 = .ok (.iload_n 1, 1) := by decide +kernel
theorem dX9_digit_69 : decode cX9_digit 69 = .ok (.ireturn, 1) := by decide +kernel
theorem dX9_number_0 : decode cX9_number 0 = .ok (.aload_n 0, 1) := by decide +kernel
theorem dX9_number_1 : decode cX9_number 1 = .ok (.invokevirtual 158, 3) := by decide +kernel
theorem dX9_number_4 : decode cX9_number 4 = .ok (.istore_n 1, 1) := by decide +kernel
theorem dX9_number_5 : decode cX9_number 5 = .ok (.iconst 1, 1) := by decide +kernel
theorem dX9_number_6 : decode cX9_number 6 = .ok (.istore_n 2, 1) := by decide +kernel
theorem dX9_number_7 : decode cX9_number 7 = .ok (.iload_n 2, 1) := by decide +kernel
theorem dX9_number_8 : decode cX9_number 8 = .ok (.iconst 3, 1) := by decide +kernel
theorem dX9_number_9 : decode cX9_number 9 = .ok (.if_icmp .ge 51, 3) := by decide +kernel
theorem dX9_number_12 : decode cX9_number 12 = .ok (.aload_n 0, 1) := by decide +kernel
theorem dX9_number_13 : decode cX9_number 13 = .ok (.getfield 151, 3) := by decide +kernel
theorem dX9_number_16 : decode cX9_number 16 = .ok (.ifCond .ne 44, 3) := by decide +kernel
theorem dX9_number_19 : decode cX9_number 19 = .ok (.aload_n 0, 1) := by decide +kernel
theorem dX9_number_20 : decode cX9_number 20 = .ok (.invokevirtual 154, 3) := by decide +kernel
theorem dX9_number_23 : decode cX9_number 23 = .ok (.ifCond .eq 37, 3) := by decide +kernel
theorem dX9_number_26 : decode cX9_number 26 = .ok (.bipush 10, 2) := by decide +kernel
theorem dX9_number_28 : decode cX9_number 28 = .ok (.iload_n 1, 1) := by decide +kernel
theorem dX9_number_29 : decode cX9_number 29 = .ok (.imul, 1) := by decide +kernel
theorem dX9_number_30 : decode cX9_number 30 = .ok (.aload_n 0, 1) := by decide +kernel
theorem dX9_number_31 : decode cX9_number 31 = .ok (.getfield 25, 3) := by decide +kernel
theorem dX9_number_34 : decode cX9_number 34 = .ok (.aload_n 0, 1) := by decide +kernel
theorem dX9_number_35 : decode cX9_number 35 = .ok (.getfield 148, 3) := by decide +kernel
theorem dX9_number_38 : decode cX9_number 38 = .ok (.iaload, 1) := by decide +kernel
theorem dX9_number_39 : decode cX9_number 39 = .ok (.iadd, 1) := by decide +kernel
theorem dX9_number_40 : decode cX9_number 40 = .ok (.bipush 48, 2) := by decide +kernel
theorem dX9_number_42 : decode cX9_number 42 = .ok (.isub, 1) := by decide +kernel
theorem dX9_number_43 : decode cX9_number 43 = .ok (.istore_n 1, 1) := by decide +kernel
theorem dX9_number_44 : decode cX9_number 44 = .ok (.aload_n 0, 1) := by decide +kernel
theorem dX9_number_45 : decode cX9_number 45 = .ok (.dup, 1) := by decide +kernel
theorem dX9_number_46 : decode cX9_number 46 = .ok (.getfield 148, 3) := by decide +kernel
theorem dX9_number_49 : decode cX9_number 49 = .ok (.iconst 1, 1) := by decide +kernel
theorem dX9_number_50 : decode cX9_number 50 = .ok (.iadd, 1) := by decide +kernel
theorem dX9_number_51 : decode cX9_number 51 = .ok (.putfield 148, 3) := by decide +kernel
theorem dX9_number_54 : decode cX9_number 54 = .ok (.iinc 2 1, 3) := by decide +kernel
theorem dX9_number_57 : decode cX9_number 57 = .ok (.goto (-50), 3) := by decide +kernel
theorem dX9_number_60 : decode cX9_number 60 = .ok (.iload_n 1, 1) := by decide +kernel
theorem dX9_number_61 : decode cX9_number 61 = .ok (.ireturn, 1) := by decide +kernel
theorem dX9_sign_0 : decode cX9_sign 0 = .ok (.aload_n 0, 1) := by decide +kernel
theorem dX9_sign_1 : decode cX9_sign 1 = .ok (.aload_n 0, 1) := by decide +kernel
theorem dX9_sign_2 : decode cX9_sign 2 = .ok (.getfield 151, 3) := by decide +kernel
theorem dX9_sign_5 : decode cX9_sign 5 = .ok (.ifCond .ne 27, 3) := by decide +kernel
theorem dX9_sign_8 : decode cX9_sign 8 = .ok (.aload_n 0, 1) := by decide +kernel
theorem dX9_sign_9 : decode cX9_sign 9 = .ok (.getfield 148, 3) := by decide +kernel
theorem dX9_sign_12 : decode cX9_sign 12 = .ok (.aload_n 0, 1) := by decide +kernel
theorem dX9_sign_13 : decode cX9_sign 13 = .ok (.getfield 145, 3) := by decide +kernel
theorem dX9_sign_16 : decode cX9_sign 16 = .ok (.if_icmp .eq 16, 3) := by decide +kernel
theorem dX9_sign_19 : decode cX9_sign 19 = .ok (.aload_n 0, 1) := by decide +kernel
theorem dX9_sign_20 : decode cX9_sign 20 = .ok (.getfield 25, 3) := by decide +kernel
theorem dX9_sign_23 : decode cX9_sign 23 = .ok (.aload_n 0, 1) := by decide +kernel
theorem dX9_sign_24 : decode cX9_sign 24 = .ok (.getfield 148, 3) := by decide +kernel
theorem dX9_sign_27 : decode cX9_sign 27 = .ok (.iaload, 1) := by decide +kernel
theorem dX9_sign_28 : decode cX9_sign 28 = .ok (.iload_n 1, 1) := by decide +kernel
theorem dX9_sign_29 : decode cX9_sign 29 = .ok (.if_icmp .eq 7, 3) := by decide +kernel
theorem dX9_sign_32 : decode cX9_sign 32 = .ok (.iconst 1, 1) := by decide +kernel
theorem dX9_sign_33 : decode cX9_sign 33 = .ok (.goto 4, 3) := by decide +kernel
theorem dX9_sign_36 : decode cX9_sign 36 = .ok (.iconst 0, 1) := by decide +kernel
theorem dX9_sign_37 : decode cX9_sign 37 = .ok (.putfield 151, 3) := by decide +kernel
theorem dX9_sign_40 : decode cX9_sign 40 = .ok (.aload_n 0, 1) := by decide +kernel
theorem dX9_sign_41 : decode cX9_sign 41 = .ok (.dup, 1) := by decide +kernel
theorem dX9_sign_42 : decode cX9_sign 42 = .ok (.getfield 148, 3) := by decide +kernel
theorem dX9_sign_45 : decode cX9_sign 45 = .ok (.aload_n 0, 1) := by decide +kernel
theorem dX9_sign_46 : decode cX9_sign 46 = .ok (.getfield 151, 3) := by decide +kernel
theorem dX9_sign_49 : decode cX9_sign 49 = .ok (.ifCond .eq 7, 3) := by decide +kernel
theorem dX9_sign_52 : decode cX9_sign 52 = .ok (.iconst 0, 1) := by decide +kernel
theorem dX9_sign_53 : decode cX9_sign 53 = .ok (.goto 4, 3) := by decide +kernel
theorem dX9_sign_56 : decode cX9_sign 56 = .ok (.iconst 1, 1) := by decide +kernel
theorem dX9_sign_57 : decode cX9_sign 57 = .ok (.iadd, 1) := by decide +kernel
theorem dX9_sign_58 : decode cX9_sign 58 = .ok (.putfield 148, 3) := by decide +kernel
theorem dX9_sign_61 : decode cX9_sign 61 = .ok (.return_, 1) := by decide +kernel
theorem dX9_readCommand_0 : decode cX9_readCommand 0 = .ok (.aload_n 0, 1) := by decide +kernel
theorem dX9_readCommand_1 : decode cX9_readCommand 1 = .ok (.aload_n 0, 1) := by decide +kernel
theorem dX9_readCommand_2 : decode cX9_readCommand 2 = .ok (.getfield 148, 3) := by decide +kernel
theorem dX9_readCommand_5 : decode cX9_readCommand 5 = .ok (.aload_n 0, 1) := by decide +kernel
theorem dX9_readCommand_6 : decode cX9_readCommand 6 = .ok (.getfield 145, 3) := by decide +kernel
theorem dX9_readCommand_9 : decode cX9_readCommand 9 = .ok (.if_icmp .ge 15, 3) := by decide +kernel
theorem dX9_readCommand_12 : decode cX9_readCommand 12 = .ok (.aload_n 0, 1) := by decide +kernel
theorem dX9_readCommand_13 : decode cX9_readCommand 13 = .ok (.getfield 25, 3) := by decide +kernel
theorem dX9_readCommand_16 : decode cX9_readCommand 16 = .ok (.aload_n 0, 1) := by decide +kernel
theorem dX9_readCommand_17 : decode cX9_readCommand 17 = .ok (.getfield 148, 3) := by decide +kernel
theorem dX9_readCommand_20 : decode cX9_readCommand 20 = .ok (.iaload, 1) := by decide +kernel
theorem dX9_readCommand_21 : decode cX9_readCommand 21 = .ok (.goto 4, 3) := by decide +kernel
theorem dX9_readCommand_24 : decode cX9_readCommand 24 = .ok (.iconst 0, 1) := by decide +kernel
theorem dX9_readCommand_25 : decode cX9_readCommand 25 = .ok (.putfield 161, 3) := by decide +kernel
theorem dX9_readCommand_28 : decode cX9_readCommand 28 = .ok (.aload_n 0, 1) := by decide +kernel
theorem dX9_readCommand_29 : decode cX9_readCommand 29 = .ok (.getfield 161, 3) := by decide +kernel
theorem dX9_readCommand_32 : decode cX9_readCommand 32 = .ok (.bipush 114, 2) := by decide +kernel
theorem dX9_readCommand_34 : decode cX9_readCommand 34 = .ok (.if_icmp .eq 30, 3) := by decide +kernel
theorem dX9_readCommand_37 : decode cX9_readCommand 37 = .ok (.aload_n 0, 1) := by decide +kernel
theorem dX9_readCommand_38 : decode cX9_readCommand 38 = .ok (.getfield 161, 3) := by decide +kernel
theorem dX9_readCommand_41 : decode cX9_readCommand 41 = .ok (.bipush 104, 2) := by decide +kernel
theorem dX9_readCommand_43 : decode cX9_readCommand 43 = .ok (.if_icmp .eq 21, 3) := by decide +kernel
theorem dX9_readCommand_46 : decode cX9_readCommand 46 = .ok (.aload_n 0, 1) := by decide +kernel
theorem dX9_readCommand_47 : decode cX9_readCommand 47 = .ok (.getfield 161, 3) := by decide +kernel
theorem dX9_readCommand_50 : decode cX9_readCommand 50 = .ok (.bipush 101, 2) := by decide +kernel
theorem dX9_readCommand_52 : decode cX9_readCommand 52 = .ok (.if_icmp .eq 12, 3) := by decide +kernel
theorem dX9_readCommand_55 : decode cX9_readCommand 55 = .ok (.aload_n 0, 1) := by decide +kernel
theorem dX9_readCommand_56 : decode cX9_readCommand 56 = .ok (.getfield 161, 3) := by decide +kernel
theorem dX9_readCommand_59 : decode cX9_readCommand 59 = .ok (.bipush 115, 2) := by decide +kernel
theorem dX9_readCommand_61 : decode cX9_readCommand 61 = .ok (.if_icmp .ne 7, 3) := by decide +kernel
theorem dX9_readCommand_64 : decode cX9_readCommand 64 = .ok (.iconst 1, 1) := by decide +kernel
theorem dX9_readCommand_65 : decode cX9_readCommand 65 = .ok (.goto 4, 3) := by decide +kernel
theorem dX9_readCommand_68 : decode cX9_readCommand 68 = .ok (.iconst 0, 1) := by decide +kernel
theorem dX9_readCommand_69 : decode cX9_readCommand 69 = .ok (.istore_n 1, 1) := by decide +kernel
theorem dX9_readCommand_70 : decode cX9_readCommand 70 = .ok (.aload_n 0, 1) := by decide +kernel
theorem dX9_readCommand_71 : decode cX9_readCommand 71 = .ok (.iload_n 1, 1) := by decide +kernel
theorem dX9_readCommand_72 : decode cX9_readCommand 72 = .ok (.ifCond .ne 25, 3) := by decide +kernel
theorem dX9_readCommand_75 : decode cX9_readCommand 75 = .ok (.aload_n 0, 1) := by decide +kernel
theorem dX9_readCommand_76 : decode cX9_readCommand 76 = .ok (.getfield 161, 3) := by decide +kernel
theorem dX9_readCommand_79 : decode cX9_readCommand 79 = .ok (.bipush 105, 2) := by decide +kernel
theorem dX9_readCommand_81 : decode cX9_readCommand 81 = .ok (.if_icmp .eq 16, 3) := by decide +kernel
theorem dX9_readCommand_84 : decode cX9_readCommand 84 = .ok (.aload_n 0, 1) := by decide +kernel
theorem dX9_readCommand_85 : decode cX9_readCommand 85 = .ok (.getfield 161, 3) := by decide +kernel
theorem dX9_readCommand_88 : decode cX9_readCommand 88 = .ok (.bipush 119, 2) := by decide +kernel
theorem dX9_readCommand_90 : decode cX9_readCommand 90 = .ok (.if_icmp .eq 7, 3) := by decide +kernel
theorem dX9_readCommand_93 : decode cX9_readCommand 93 = .ok (.iconst 1, 1) := by decide +kernel
theorem dX9_readCommand_94 : decode cX9_readCommand 94 = .ok (.goto 4, 3) := by decide +kernel
theorem dX9_readCommand_97 : decode cX9_readCommand 97 = .ok (.iconst 0, 1) := by decide +kernel
theorem dX9_readCommand_98 : decode cX9_readCommand 98 = .ok (.putfield 151, 3) := by decide +kernel
theorem dX9_readCommand_101 : decode cX9_readCommand 101 = .ok (.aload_n 0, 1) := by decide +kernel
theorem dX9_readCommand_102 : decode cX9_readCommand 102 = .ok (.dup, 1) := by decide +kernel
theorem dX9_readCommand_103 : decode cX9_readCommand 103 = .ok (.getfield 148, 3) := by decide +kernel
theorem dX9_readCommand_106 : decode cX9_readCommand 106 = .ok (.aload_n 0, 1) := by decide +kernel
theorem dX9_readCommand_107 : decode cX9_readCommand 107 = .ok (.getfield 151, 3) := by decide +kernel
theorem dX9_readCommand_110 : decode cX9_readCommand 110 = .ok (.ifCond .eq 7, 3) := by decide +kernel
theorem dX9_readCommand_113 : decode cX9_readCommand 113 = .ok (.iconst 0, 1) := by decide +kernel
theorem dX9_readCommand_114 : decode cX9_readCommand 114 = .ok (.goto 4, 3) := by decide +kernel
theorem dX9_readCommand_117 : decode cX9_readCommand 117 = .ok (.iconst 1, 1) := by decide +kernel
theorem dX9_readCommand_118 : decode cX9_readCommand 118 = .ok (.iadd, 1) := by decide +kernel
theorem dX9_readCommand_119 : decode cX9_readCommand 119 = .ok (.putfield 148, 3) := by decide +kernel
theorem dX9_readCommand_122 : decode cX9_readCommand 122 = .ok (.aload_n 0, 1) := by decide +kernel
theorem dX9_readCommand_123 : decode cX9_readCommand 123 = .ok (.iload_n 1, 1) := by decide +kernel
theorem dX9_readCommand_124 : decode cX9_readCommand 124 = .ok (.ifCond .eq 10, 3) := by decide +kernel
theorem dX9_readCommand_127 : decode cX9_readCommand 127 = .ok (.aload_n 0, 1) := by decide +kernel
theorem dX9_readCommand_128 : decode cX9_readCommand 128 = .ok (.invokevirtual 158, 3) := by decide +kernel
theorem dX9_readCommand_131 : decode cX9_readCommand 131 = .ok (.goto 4, 3) := by decide +kernel
theorem dX9_readCommand_134 : decode cX9_readCommand 134 = .ok (.iconst 0, 1) := by decide +kernel
theorem dX9_readCommand_135 : decode cX9_readCommand 135 = .ok (.putfield 164, 3) := by decide +kernel
theorem dX9_readCommand_138 : decode cX9_readCommand 138 = .ok (.aload_n 0, 1) := by decide +kernel
theorem dX9_readCommand_139 : decode cX9_readCommand 139 = .ok (.getfield 161, 3) := by decide +kernel
theorem dX9_readCommand_142 : decode cX9_readCommand 142 = .ok (.bipush 115, 2) := by decide +kernel
theorem dX9_readCommand_144 : decode cX9_readCommand 144 = .ok (.if_icmp .ne 9, 3) := by decide +kernel
theorem dX9_readCommand_147 : decode cX9_readCommand 147 = .ok (.aload_n 0, 1) := by decide +kernel
theorem dX9_readCommand_148 : decode cX9_readCommand 148 = .ok (.bipush 61, 2) := by decide +kernel
theorem dX9_readCommand_150 : decode cX9_readCommand 150 = .ok (.invokevirtual 167, 3) := by decide +kernel
theorem dX9_readCommand_153 : decode cX9_readCommand 153 = .ok (.aload_n 0, 1) := by decide +kernel
theorem dX9_readCommand_154 : decode cX9_readCommand 154 = .ok (.aload_n 0, 1) := by decide +kernel
theorem dX9_readCommand_155 : decode cX9_readCommand 155 = .ok (.getfield 161, 3) := by decide +kernel
theorem dX9_readCommand_158 : decode cX9_readCommand 158 = .ok (.bipush 115, 2) := by decide +kernel
theorem dX9_readCommand_160 : decode cX9_readCommand 160 = .ok (.if_icmp .eq 21, 3) := by decide +kernel
theorem dX9_readCommand_163 : decode cX9_readCommand 163 = .ok (.aload_n 0, 1) := by decide +kernel
theorem dX9_readCommand_164 : decode cX9_readCommand 164 = .ok (.getfield 161, 3) := by decide +kernel
theorem dX9_readCommand_167 : decode cX9_readCommand 167 = .ok (.bipush 105, 2) := by decide +kernel
theorem dX9_readCommand_169 : decode cX9_readCommand 169 = .ok (.if_icmp .eq 12, 3) := by decide +kernel
theorem dX9_readCommand_172 : decode cX9_readCommand 172 = .ok (.aload_n 0, 1) := by decide +kernel
theorem dX9_readCommand_173 : decode cX9_readCommand 173 = .ok (.getfield 161, 3) := by decide +kernel
theorem dX9_readCommand_176 : decode cX9_readCommand 176 = .ok (.bipush 119, 2) := by decide +kernel
theorem dX9_readCommand_178 : decode cX9_readCommand 178 = .ok (.if_icmp .ne 10, 3) := by decide +kernel
theorem dX9_readCommand_181 : decode cX9_readCommand 181 = .ok (.aload_n 0, 1) := by decide +kernel
theorem dX9_readCommand_182 : decode cX9_readCommand 182 = .ok (.invokevirtual 170, 3) := by decide +kernel
theorem dX9_readCommand_185 : decode cX9_readCommand 185 = .ok (.goto 4, 3) := by decide +kernel
theorem dX9_readCommand_188 : decode cX9_readCommand 188 = .ok (.iconst 0, 1) := by decide +kernel
theorem dX9_readCommand_189 : decode cX9_readCommand 189 = .ok (.putfield 173, 3) := by decide +kernel
theorem dX9_readCommand_192 : decode cX9_readCommand 192 = .ok (.return_, 1) := by decide +kernel
theorem dX9_check_0 : decode cX9_check 0 = .ok (.aload_n 0, 1) := by decide +kernel
theorem dX9_check_1 : decode cX9_check 1 = .ok (.iconst 0, 1) := by decide +kernel
theorem dX9_check_2 : decode cX9_check 2 = .ok (.putfield 148, 3) := by decide +kernel
theorem dX9_check_5 : decode cX9_check 5 = .ok (.aload_n 0, 1) := by decide +kernel
theorem dX9_check_6 : decode cX9_check 6 = .ok (.iconst 0, 1) := by decide +kernel
theorem dX9_check_7 : decode cX9_check 7 = .ok (.putfield 151, 3) := by decide +kernel
theorem dX9_check_10 : decode cX9_check 10 = .ok (.aload_n 0, 1) := by decide +kernel
theorem dX9_check_11 : decode cX9_check 11 = .ok (.invokevirtual 176, 3) := by decide +kernel
theorem dX9_check_14 : decode cX9_check 14 = .ok (.aload_n 0, 1) := by decide +kernel
theorem dX9_check_15 : decode cX9_check 15 = .ok (.getfield 151, 3) := by decide +kernel
theorem dX9_check_18 : decode cX9_check 18 = .ok (.ifCond .ne 34, 3) := by decide +kernel
theorem dX9_check_21 : decode cX9_check 21 = .ok (.aload_n 0, 1) := by decide +kernel
theorem dX9_check_22 : decode cX9_check 22 = .ok (.getfield 148, 3) := by decide +kernel
theorem dX9_check_25 : decode cX9_check 25 = .ok (.aload_n 0, 1) := by decide +kernel
theorem dX9_check_26 : decode cX9_check 26 = .ok (.getfield 145, 3) := by decide +kernel
theorem dX9_check_29 : decode cX9_check 29 = .ok (.if_icmp .ge 23, 3) := by decide +kernel
theorem dX9_check_32 : decode cX9_check 32 = .ok (.aload_n 0, 1) := by decide +kernel
theorem dX9_check_33 : decode cX9_check 33 = .ok (.bipush 59, 2) := by decide +kernel
theorem dX9_check_35 : decode cX9_check 35 = .ok (.invokevirtual 167, 3) := by decide +kernel
theorem dX9_check_38 : decode cX9_check 38 = .ok (.aload_n 0, 1) := by decide +kernel
theorem dX9_check_39 : decode cX9_check 39 = .ok (.getfield 151, 3) := by decide +kernel
theorem dX9_check_42 : decode cX9_check 42 = .ok (.ifCond .ne (-28), 3) := by decide +kernel
theorem dX9_check_45 : decode cX9_check 45 = .ok (.aload_n 0, 1) := by decide +kernel
theorem dX9_check_46 : decode cX9_check 46 = .ok (.invokevirtual 176, 3) := by decide +kernel
theorem dX9_check_49 : decode cX9_check 49 = .ok (.goto (-35), 3) := by decide +kernel
theorem dX9_check_52 : decode cX9_check 52 = .ok (.aload_n 0, 1) := by decide +kernel
theorem dX9_check_53 : decode cX9_check 53 = .ok (.getfield 151, 3) := by decide +kernel
theorem dX9_check_56 : decode cX9_check 56 = .ok (.ifCond .eq 10, 3) := by decide +kernel
theorem dX9_check_59 : decode cX9_check 59 = .ok (.aload_n 0, 1) := by decide +kernel
theorem dX9_check_60 : decode cX9_check 60 = .ok (.getfield 148, 3) := by decide +kernel
theorem dX9_check_63 : decode cX9_check 63 = .ok (.goto 6, 3) := by decide +kernel
theorem dX9_check_66 : decode cX9_check 66 = .ok (.sipush (-1005), 3) := by decide +kernel
theorem dX9_check_69 : decode cX9_check 69 = .ok (.ireturn, 1) := by decide +kernel
theorem dX9_syntaxError_0 : decode cX9_syntaxError 0 = .ok (.aload_n 0, 1) := by decide +kernel
theorem dX9_syntaxError_1 : decode cX9_syntaxError 1 = .ok (.invokevirtual 179, 3) := by decide +kernel
theorem dX9_syntaxError_4 : decode cX9_syntaxError 4 = .ok (.ireturn, 1) := by decide +kernel
theorem dX9_perform_0 : decode cX9_perform 0 = .ok (.aload_n 0, 1) := by decide +kernel
theorem dX9_perform_1 : decode cX9_perform 1 = .ok (.aload_n 0, 1) := by decide +kernel
theorem dX9_perform_2 : decode cX9_perform 2 = .ok (.getfield 164, 3) := by decide +kernel
theorem dX9_perform_5 : decode cX9_perform 5 = .ok (.invokevirtual 106, 3) := by decide +kernel
theorem dX9_perform_8 : decode cX9_perform 8 = .ok (.ifCond .eq 21, 3) := by decide +kernel
theorem dX9_perform_11 : decode cX9_perform 11 = .ok (.aload_n 0, 1) := by decide +kernel
theorem dX9_perform_12 : decode cX9_perform 12 = .ok (.getfield 7, 3) := by decide +kernel
theorem dX9_perform_15 : decode cX9_perform 15 = .ok (.aload_n 0, 1) := by decide +kernel
theorem dX9_perform_16 : decode cX9_perform 16 = .ok (.getfield 164, 3) := by decide +kernel
theorem dX9_perform_19 : decode cX9_perform 19 = .ok (.invokestatic 39, 3) := by decide +kernel
theorem dX9_perform_22 : decode cX9_perform 22 = .ok (.bipush 9, 2) := by decide +kernel
theorem dX9_perform_24 : decode cX9_perform 24 = .ok (.iadd, 1) := by decide +kernel
theorem dX9_perform_25 : decode cX9_perform 25 = .ok (.iaload, 1) := by decide +kernel
theorem dX9_perform_26 : decode cX9_perform 26 = .ok (.goto 4, 3) := by decide +kernel
theorem dX9_perform_29 : decode cX9_perform 29 = .ok (.iconst 0, 1) := by decide +kernel
theorem dX9_perform_30 : decode cX9_perform 30 = .ok (.istore_n 1, 1) := by decide +kernel
theorem dX9_perform_31 : decode cX9_perform 31 = .ok (.aload_n 0, 1) := by decide +kernel
theorem dX9_perform_32 : decode cX9_perform 32 = .ok (.getfield 161, 3) := by decide +kernel
theorem dX9_perform_35 : decode cX9_perform 35 = .ok (.bipush 114, 2) := by decide +kernel
theorem dX9_perform_37 : decode cX9_perform 37 = .ok (.if_icmp .ne 15, 3) := by decide +kernel
theorem dX9_perform_40 : decode cX9_perform 40 = .ok (.aload_n 0, 1) := by decide +kernel
theorem dX9_perform_41 : decode cX9_perform 41 = .ok (.aload_n 0, 1) := by decide +kernel
theorem dX9_perform_42 : decode cX9_perform 42 = .ok (.getfield 164, 3) := by decide +kernel
theorem dX9_perform_45 : decode cX9_perform 45 = .ok (.iconst 1, 1) := by decide +kernel
theorem dX9_perform_46 : decode cX9_perform 46 = .ok (.invokevirtual 123, 3) := by decide +kernel
theorem dX9_perform_49 : decode cX9_perform 49 = .ok (.goto 110, 3) := by decide +kernel
theorem dX9_perform_52 : decode cX9_perform 52 = .ok (.aload_n 0, 1) := by decide +kernel
theorem dX9_perform_53 : decode cX9_perform 53 = .ok (.getfield 161, 3) := by decide +kernel
theorem dX9_perform_56 : decode cX9_perform 56 = .ok (.bipush 104, 2) := by decide +kernel
theorem dX9_perform_58 : decode cX9_perform 58 = .ok (.if_icmp .ne 15, 3) := by decide +kernel
theorem dX9_perform_61 : decode cX9_perform 61 = .ok (.aload_n 0, 1) := by decide +kernel
theorem dX9_perform_62 : decode cX9_perform 62 = .ok (.aload_n 0, 1) := by decide +kernel
theorem dX9_perform_63 : decode cX9_perform 63 = .ok (.getfield 164, 3) := by decide +kernel
theorem dX9_perform_66 : decode cX9_perform 66 = .ok (.iconst 0, 1) := by decide +kernel
theorem dX9_perform_67 : decode cX9_perform 67 = .ok (.invokevirtual 123, 3) := by decide +kernel
theorem dX9_perform_70 : decode cX9_perform 70 = .ok (.goto 89, 3) := by decide +kernel
theorem dX9_perform_73 : decode cX9_perform 73 = .ok (.aload_n 0, 1) := by decide +kernel
theorem dX9_perform_74 : decode cX9_perform 74 = .ok (.getfield 161, 3) := by decide +kernel
theorem dX9_perform_77 : decode cX9_perform 77 = .ok (.bipush 101, 2) := by decide +kernel
theorem dX9_perform_79 : decode cX9_perform 79 = .ok (.if_icmp .ne 14, 3) := by decide +kernel
theorem dX9_perform_82 : decode cX9_perform 82 = .ok (.aload_n 0, 1) := by decide +kernel
theorem dX9_perform_83 : decode cX9_perform 83 = .ok (.aload_n 0, 1) := by decide +kernel
theorem dX9_perform_84 : decode cX9_perform 84 = .ok (.getfield 164, 3) := by decide +kernel
theorem dX9_perform_87 : decode cX9_perform 87 = .ok (.invokevirtual 133, 3) := by decide +kernel
theorem dX9_perform_90 : decode cX9_perform 90 = .ok (.goto 69, 3) := by decide +kernel
theorem dX9_perform_93 : decode cX9_perform 93 = .ok (.aload_n 0, 1) := by decide +kernel
theorem dX9_perform_94 : decode cX9_perform 94 = .ok (.getfield 161, 3) := by decide +kernel
theorem dX9_perform_97 : decode cX9_perform 97 = .ok (.bipush 115, 2) := by decide +kernel
theorem dX9_perform_99 : decode cX9_perform 99 = .ok (.if_icmp .ne 19, 3) := by decide +kernel
theorem dX9_perform_102 : decode cX9_perform 102 = .ok (.aload_n 0, 1) := by decide +kernel
theorem dX9_perform_103 : decode cX9_perform 103 = .ok (.aload_n 0, 1) := by decide +kernel
theorem dX9_perform_104 : decode cX9_perform 104 = .ok (.getfield 164, 3) := by decide +kernel
theorem dX9_perform_107 : decode cX9_perform 107 = .ok (.iload_n 1, 1) := by decide +kernel
theorem dX9_perform_108 : decode cX9_perform 108 = .ok (.aload_n 0, 1) := by decide +kernel
theorem dX9_perform_109 : decode cX9_perform 109 = .ok (.getfield 173, 3) := by decide +kernel
theorem dX9_perform_112 : decode cX9_perform 112 = .ok (.invokevirtual 109, 3) := by decide +kernel
theorem dX9_perform_115 : decode cX9_perform 115 = .ok (.goto 44, 3) := by decide +kernel
theorem dX9_perform_118 : decode cX9_perform 118 = .ok (.aload_n 0, 1) := by decide +kernel
theorem dX9_perform_119 : decode cX9_perform 119 = .ok (.getfield 161, 3) := by decide +kernel
theorem dX9_perform_122 : decode cX9_perform 122 = .ok (.bipush 105, 2) := by decide +kernel
theorem dX9_perform_124 : decode cX9_perform 124 = .ok (.if_icmp .ne 27, 3) := by decide +kernel
theorem dX9_perform_127 : decode cX9_perform 127 = .ok (.aload_n 0, 1) := by decide +kernel
theorem dX9_perform_128 : decode cX9_perform 128 = .ok (.getfield 173, 3) := by decide +kernel
theorem dX9_perform_131 : decode cX9_perform 131 = .ok (.iconst 0, 1) := by decide +kernel
theorem dX9_perform_132 : decode cX9_perform 132 = .ok (.sipush 500, 3) := by decide +kernel
theorem dX9_perform_135 : decode cX9_perform 135 = .ok (.invokestatic 35, 3) := by decide +kernel
theorem dX9_perform_138 : decode cX9_perform 138 = .ok (.ifCond .eq 7, 3) := by decide +kernel
theorem dX9_perform_141 : decode cX9_perform 141 = .ok (.iconst 0, 1) := by decide +kernel
theorem dX9_perform_142 : decode cX9_perform 142 = .ok (.goto 17, 3) := by decide +kernel
theorem dX9_perform_145 : decode cX9_perform 145 = .ok (.sipush (-1002), 3) := by decide +kernel
theorem dX9_perform_148 : decode cX9_perform 148 = .ok (.goto 11, 3) := by decide +kernel
theorem dX9_perform_151 : decode cX9_perform 151 = .ok (.aload_n 0, 1) := by decide +kernel
theorem dX9_perform_152 : decode cX9_perform 152 = .ok (.aload_n 0, 1) := by decide +kernel
theorem dX9_perform_153 : decode cX9_perform 153 = .ok (.getfield 173, 3) := by decide +kernel
theorem dX9_perform_156 : decode cX9_perform 156 = .ok (.invokevirtual 139, 3) := by decide +kernel
theorem dX9_perform_159 : decode cX9_perform 159 = .ok (.istore_n 2, 1) := by decide +kernel
theorem dX9_perform_160 : decode cX9_perform 160 = .ok (.iload_n 2, 1) := by decide +kernel
theorem dX9_perform_161 : decode cX9_perform 161 = .ok (.ifCond .eq 5, 3) := by decide +kernel
theorem dX9_perform_164 : decode cX9_perform 164 = .ok (.iload_n 2, 1) := by decide +kernel
theorem dX9_perform_165 : decode cX9_perform 165 = .ok (.ireturn, 1) := by decide +kernel
theorem dX9_perform_166 : decode cX9_perform 166 = .ok (.aload_n 0, 1) := by decide +kernel
theorem dX9_perform_167 : decode cX9_perform 167 = .ok (.getfield 161, 3) := by decide +kernel
theorem dX9_perform_170 : decode cX9_perform 170 = .ok (.bipush 114, 2) := by decide +kernel
theorem dX9_perform_172 : decode cX9_perform 172 = .ok (.if_icmp .ne 14, 3) := by decide +kernel
theorem dX9_perform_175 : decode cX9_perform 175 = .ok (.aload_n 0, 1) := by decide +kernel
theorem dX9_perform_176 : decode cX9_perform 176 = .ok (.aload_n 0, 1) := by decide +kernel
theorem dX9_perform_177 : decode cX9_perform 177 = .ok (.getfield 164, 3) := by decide +kernel
theorem dX9_perform_180 : decode cX9_perform 180 = .ok (.invokevirtual 127, 3) := by decide +kernel
theorem dX9_perform_183 : decode cX9_perform 183 = .ok (.goto 96, 3) := by decide +kernel
theorem dX9_perform_186 : decode cX9_perform 186 = .ok (.aload_n 0, 1) := by decide +kernel
theorem dX9_perform_187 : decode cX9_perform 187 = .ok (.getfield 161, 3) := by decide +kernel
theorem dX9_perform_190 : decode cX9_perform 190 = .ok (.bipush 104, 2) := by decide +kernel
theorem dX9_perform_192 : decode cX9_perform 192 = .ok (.if_icmp .ne 14, 3) := by decide +kernel
theorem dX9_perform_195 : decode cX9_perform 195 = .ok (.aload_n 0, 1) := by decide +kernel
theorem dX9_perform_196 : decode cX9_perform 196 = .ok (.aload_n 0, 1) := by decide +kernel
theorem dX9_perform_197 : decode cX9_perform 197 = .ok (.getfield 164, 3) := by decide +kernel
theorem dX9_perform_200 : decode cX9_perform 200 = .ok (.invokevirtual 130, 3) := by decide +kernel
theorem dX9_perform_203 : decode cX9_perform 203 = .ok (.goto 76, 3) := by decide +kernel
theorem dX9_perform_206 : decode cX9_perform 206 = .ok (.aload_n 0, 1) := by decide +kernel
theorem dX9_perform_207 : decode cX9_perform 207 = .ok (.getfield 161, 3) := by decide +kernel
theorem dX9_perform_210 : decode cX9_perform 210 = .ok (.bipush 101, 2) := by decide +kernel
theorem dX9_perform_212 : decode cX9_perform 212 = .ok (.if_icmp .ne 14, 3) := by decide +kernel
theorem dX9_perform_215 : decode cX9_perform 215 = .ok (.aload_n 0, 1) := by decide +kernel
theorem dX9_perform_216 : decode cX9_perform 216 = .ok (.aload_n 0, 1) := by decide +kernel
theorem dX9_perform_217 : decode cX9_perform 217 = .ok (.getfield 164, 3) := by decide +kernel
theorem dX9_perform_220 : decode cX9_perform 220 = .ok (.invokevirtual 136, 3) := by decide +kernel
theorem dX9_perform_223 : decode cX9_perform 223 = .ok (.goto 56, 3) := by decide +kernel
theorem dX9_perform_226 : decode cX9_perform 226 = .ok (.aload_n 0, 1) := by decide +kernel
theorem dX9_perform_227 : decode cX9_perform 227 = .ok (.getfield 161, 3) := by decide +kernel
theorem dX9_perform_230 : decode cX9_perform 230 = .ok (.bipush 115, 2) := by decide +kernel
theorem dX9_perform_232 : decode cX9_perform 232 = .ok (.if_icmp .ne 19, 3) := by decide +kernel
theorem dX9_perform_235 : decode cX9_perform 235 = .ok (.aload_n 0, 1) := by decide +kernel
theorem dX9_perform_236 : decode cX9_perform 236 = .ok (.aload_n 0, 1) := by decide +kernel
theorem dX9_perform_237 : decode cX9_perform 237 = .ok (.getfield 164, 3) := by decide +kernel
theorem dX9_perform_240 : decode cX9_perform 240 = .ok (.iload_n 1, 1) := by decide +kernel
theorem dX9_perform_241 : decode cX9_perform 241 = .ok (.aload_n 0, 1) := by decide +kernel
theorem dX9_perform_242 : decode cX9_perform 242 = .ok (.getfield 173, 3) := by decide +kernel
theorem dX9_perform_245 : decode cX9_perform 245 = .ok (.invokevirtual 113, 3) := by decide +kernel
theorem dX9_perform_248 : decode cX9_perform 248 = .ok (.goto 31, 3) := by decide +kernel
theorem dX9_perform_251 : decode cX9_perform 251 = .ok (.aload_n 0, 1) := by decide +kernel
theorem dX9_perform_252 : decode cX9_perform 252 = .ok (.getfield 161, 3) := by decide +kernel
theorem dX9_perform_255 : decode cX9_perform 255 = .ok (.bipush 105, 2) := by decide +kernel
theorem dX9_perform_257 : decode cX9_perform 257 = .ok (.if_icmp .ne 14, 3) := by decide +kernel
theorem dX9_perform_260 : decode cX9_perform 260 = .ok (.aload_n 0, 1) := by decide +kernel
theorem dX9_perform_261 : decode cX9_perform 261 = .ok (.aload_n 0, 1) := by decide +kernel
theorem dX9_perform_262 : decode cX9_perform 262 = .ok (.getfield 173, 3) := by decide +kernel
theorem dX9_perform_265 : decode cX9_perform 265 = .ok (.invokevirtual 116, 3) := by decide +kernel
theorem dX9_perform_268 : decode cX9_perform 268 = .ok (.goto 11, 3) := by decide +kernel
theorem dX9_perform_271 : decode cX9_perform 271 = .ok (.aload_n 0, 1) := by decide +kernel
theorem dX9_perform_272 : decode cX9_perform 272 = .ok (.aload_n 0, 1) := by decide +kernel
theorem dX9_perform_273 : decode cX9_perform 273 = .ok (.getfield 173, 3) := by decide +kernel
theorem dX9_perform_276 : decode cX9_perform 276 = .ok (.invokevirtual 142, 3) := by decide +kernel
theorem dX9_perform_279 : decode cX9_perform 279 = .ok (.istore_n 3, 1) := by decide +kernel
theorem dX9_perform_280 : decode cX9_perform 280 = .ok (.iload_n 3, 1) := by decide +kernel
theorem dX9_perform_281 : decode cX9_perform 281 = .ok (.ifCond .ge 7, 3) := by decide +kernel
theorem dX9_perform_284 : decode cX9_perform 284 = .ok (.iload_n 3, 1) := by decide +kernel
theorem dX9_perform_285 : decode cX9_perform 285 = .ok (.goto 4, 3) := by decide +kernel
theorem dX9_perform_288 : decode cX9_perform 288 = .ok (.iconst 0, 1) := by decide +kernel
theorem dX9_perform_289 : decode cX9_perform 289 = .ok (.ireturn, 1) := by decide +kernel
theorem dX9_execute_0 : decode cX9_execute 0 = .ok (.aload_n 0, 1) := by decide +kernel
theorem dX9_execute_1 : decode cX9_execute 1 = .ok (.invokevirtual 179, 3) := by decide +kernel
theorem dX9_execute_4 : decode cX9_execute 4 = .ok (.istore_n 1, 1) := by decide +kernel
theorem dX9_execute_5 : decode cX9_execute 5 = .ok (.iload_n 1, 1) := by decide +kernel
theorem dX9_execute_6 : decode cX9_execute 6 = .ok (.sipush (-1005), 3) := by decide +kernel
theorem dX9_execute_9 : decode cX9_execute 9 = .ok (.if_icmp .eq 9, 3) := by decide +kernel
theorem dX9_execute_12 : decode cX9_execute 12 = .ok (.sipush (-2000), 3) := by decide +kernel
theorem dX9_execute_15 : decode cX9_execute 15 = .ok (.iload_n 1, 1) := by decide +kernel
theorem dX9_execute_16 : decode cX9_execute 16 = .ok (.isub, 1) := by decide +kernel
theorem dX9_execute_17 : decode cX9_execute 17 = .ok (.ireturn, 1) := by decide +kernel
theorem dX9_execute_18 : decode cX9_execute 18 = .ok (.aload_n 0, 1) := by decide +kernel
theorem dX9_execute_19 : decode cX9_execute 19 = .ok (.invokevirtual 103, 3) := by decide +kernel
theorem dX9_execute_22 : decode cX9_execute 22 = .ok (.aload_n 0, 1) := by decide +kernel
theorem dX9_execute_23 : decode cX9_execute 23 = .ok (.iconst 0, 1) := by decide +kernel
theorem dX9_execute_24 : decode cX9_execute 24 = .ok (.putfield 148, 3) := by decide +kernel
theorem dX9_execute_27 : decode cX9_execute 27 = .ok (.aload_n 0, 1) := by decide +kernel
theorem dX9_execute_28 : decode cX9_execute 28 = .ok (.iconst 0, 1) := by decide +kernel
theorem dX9_execute_29 : decode cX9_execute 29 = .ok (.putfield 28, 3) := by decide +kernel
theorem dX9_execute_32 : decode cX9_execute 32 = .ok (.iconst 0, 1) := by decide +kernel
theorem dX9_execute_33 : decode cX9_execute 33 = .ok (.istore_n 2, 1) := by decide +kernel
theorem dX9_execute_34 : decode cX9_execute 34 = .ok (.aload_n 0, 1) := by decide +kernel
theorem dX9_execute_35 : decode cX9_execute 35 = .ok (.getfield 148, 3) := by decide +kernel
theorem dX9_execute_38 : decode cX9_execute 38 = .ok (.aload_n 0, 1) := by decide +kernel
theorem dX9_execute_39 : decode cX9_execute 39 = .ok (.getfield 145, 3) := by decide +kernel
theorem dX9_execute_42 : decode cX9_execute 42 = .ok (.if_icmp .ge 40, 3) := by decide +kernel
theorem dX9_execute_45 : decode cX9_execute 45 = .ok (.iload_n 2, 1) := by decide +kernel
theorem dX9_execute_46 : decode cX9_execute 46 = .ok (.ifCond .le 9, 3) := by decide +kernel
theorem dX9_execute_49 : decode cX9_execute 49 = .ok (.aload_n 0, 1) := by decide +kernel
theorem dX9_execute_50 : decode cX9_execute 50 = .ok (.bipush 59, 2) := by decide +kernel
theorem dX9_execute_52 : decode cX9_execute 52 = .ok (.invokevirtual 167, 3) := by decide +kernel
theorem dX9_execute_55 : decode cX9_execute 55 = .ok (.aload_n 0, 1) := by decide +kernel
theorem dX9_execute_56 : decode cX9_execute 56 = .ok (.invokevirtual 176, 3) := by decide +kernel
theorem dX9_execute_59 : decode cX9_execute 59 = .ok (.aload_n 0, 1) := by decide +kernel
theorem dX9_execute_60 : decode cX9_execute 60 = .ok (.aload_n 0, 1) := by decide +kernel
theorem dX9_execute_61 : decode cX9_execute 61 = .ok (.invokevirtual 182, 3) := by decide +kernel
theorem dX9_execute_64 : decode cX9_execute 64 = .ok (.putfield 28, 3) := by decide +kernel
theorem dX9_execute_67 : decode cX9_execute 67 = .ok (.aload_n 0, 1) := by decide +kernel
theorem dX9_execute_68 : decode cX9_execute 68 = .ok (.getfield 28, 3) := by decide +kernel
theorem dX9_execute_71 : decode cX9_execute 71 = .ok (.ifCond .eq 5, 3) := by decide +kernel
theorem dX9_execute_74 : decode cX9_execute 74 = .ok (.iload_n 2, 1) := by decide +kernel
theorem dX9_execute_75 : decode cX9_execute 75 = .ok (.ireturn, 1) := by decide +kernel
theorem dX9_execute_76 : decode cX9_execute 76 = .ok (.iinc 2 1, 3) := by decide +kernel
theorem dX9_execute_79 : decode cX9_execute 79 = .ok (.goto (-45), 3) := by decide +kernel
theorem dX9_execute_82 : decode cX9_execute 82 = .ok (.iload_n 2, 1) := by decide +kernel
theorem dX9_execute_83 : decode cX9_execute 83 = .ok (.ireturn, 1) := by decide +kernel
theorem dX9_failure_0 : decode cX9_failure 0 = .ok (.aload_n 0, 1) := by decide +kernel
theorem dX9_failure_1 : decode cX9_failure 1 = .ok (.getfield 28, 3) := by decide +kernel
theorem dX9_failure_4 : decode cX9_failure 4 = .ok (.ireturn, 1) := by decide +kernel
theorem dX9_time_0 : decode cX9_time 0 = .ok (.aload_n 0, 1) := by decide +kernel
theorem dX9_time_1 : decode cX9_time 1 = .ok (.getfield 7, 3) := by decide +kernel
theorem dX9_time_4 : decode cX9_time 4 = .ok (.iconst 2, 1) := by decide +kernel
theorem dX9_time_5 : decode cX9_time 5 = .ok (.iaload, 1) := by decide +kernel
theorem dX9_time_6 : decode cX9_time 6 = .ok (.ireturn, 1) := by decide +kernel
theorem dX9_basin_0 : decode cX9_basin 0 = .ok (.aload_n 0, 1) := by decide +kernel
theorem dX9_basin_1 : decode cX9_basin 1 = .ok (.getfield 7, 3) := by decide +kernel
theorem dX9_basin_4 : decode cX9_basin 4 = .ok (.iconst 0, 1) := by decide +kernel
theorem dX9_basin_5 : decode cX9_basin 5 = .ok (.iaload, 1) := by decide +kernel
theorem dX9_basin_6 : decode cX9_basin 6 = .ok (.ireturn, 1) := by decide +kernel
theorem dX9_spilled_0 : decode cX9_spilled 0 = .ok (.aload_n 0, 1) := by decide +kernel
theorem dX9_spilled_1 : decode cX9_spilled 1 = .ok (.getfield 7, 3) := by decide +kernel
theorem dX9_spilled_4 : decode cX9_spilled 4 = .ok (.iconst 3, 1) := by decide +kernel
theorem dX9_spilled_5 : decode cX9_spilled 5 = .ok (.iaload, 1) := by decide +kernel
theorem dX9_spilled_6 : decode cX9_spilled 6 = .ok (.ireturn, 1) := by decide +kernel
theorem dX9_pumps_0 : decode cX9_pumps 0 = .ok (.aload_n 0, 1) := by decide +kernel
theorem dX9_pumps_1 : decode cX9_pumps 1 = .ok (.getfield 7, 3) := by decide +kernel
theorem dX9_pumps_4 : decode cX9_pumps 4 = .ok (.iconst 4, 1) := by decide +kernel
theorem dX9_pumps_5 : decode cX9_pumps 5 = .ok (.iaload, 1) := by decide +kernel
theorem dX9_pumps_6 : decode cX9_pumps 6 = .ok (.ireturn, 1) := by decide +kernel
theorem dX9_incidents_0 : decode cX9_incidents 0 = .ok (.aload_n 0, 1) := by decide +kernel
theorem dX9_incidents_1 : decode cX9_incidents 1 = .ok (.getfield 46, 3) := by decide +kernel
theorem dX9_incidents_4 : decode cX9_incidents 4 = .ok (.ireturn, 1) := by decide +kernel
theorem dX9_incidentKind_0 : decode cX9_incidentKind 0 = .ok (.aload_n 0, 1) := by decide +kernel
theorem dX9_incidentKind_1 : decode cX9_incidentKind 1 = .ok (.iload_n 1, 1) := by decide +kernel
theorem dX9_incidentKind_2 : decode cX9_incidentKind 2 = .ok (.invokevirtual 185, 3) := by decide +kernel
theorem dX9_incidentKind_5 : decode cX9_incidentKind 5 = .ok (.istore_n 2, 1) := by decide +kernel
theorem dX9_incidentKind_6 : decode cX9_incidentKind 6 = .ok (.iload_n 2, 1) := by decide +kernel
theorem dX9_incidentKind_7 : decode cX9_incidentKind 7 = .ok (.ifCond .ge 7, 3) := by decide +kernel
theorem dX9_incidentKind_10 : decode cX9_incidentKind 10 = .ok (.iload_n 2, 1) := by decide +kernel
theorem dX9_incidentKind_11 : decode cX9_incidentKind 11 = .ok (.goto 9, 3) := by decide +kernel
theorem dX9_incidentKind_14 : decode cX9_incidentKind 14 = .ok (.aload_n 0, 1) := by decide +kernel
theorem dX9_incidentKind_15 : decode cX9_incidentKind 15 = .ok (.getfield 16, 3) := by decide +kernel
theorem dX9_incidentKind_18 : decode cX9_incidentKind 18 = .ok (.iload_n 2, 1) := by decide +kernel
theorem dX9_incidentKind_19 : decode cX9_incidentKind 19 = .ok (.iaload, 1) := by decide +kernel
theorem dX9_incidentKind_20 : decode cX9_incidentKind 20 = .ok (.ireturn, 1) := by decide +kernel
theorem dX9_incidentPump_0 : decode cX9_incidentPump 0 = .ok (.aload_n 0, 1) := by decide +kernel
theorem dX9_incidentPump_1 : decode cX9_incidentPump 1 = .ok (.iload_n 1, 1) := by decide +kernel
theorem dX9_incidentPump_2 : decode cX9_incidentPump 2 = .ok (.invokevirtual 185, 3) := by decide +kernel
theorem dX9_incidentPump_5 : decode cX9_incidentPump 5 = .ok (.istore_n 2, 1) := by decide +kernel
theorem dX9_incidentPump_6 : decode cX9_incidentPump 6 = .ok (.iload_n 2, 1) := by decide +kernel
theorem dX9_incidentPump_7 : decode cX9_incidentPump 7 = .ok (.ifCond .ge 7, 3) := by decide +kernel
theorem dX9_incidentPump_10 : decode cX9_incidentPump 10 = .ok (.iload_n 2, 1) := by decide +kernel
theorem dX9_incidentPump_11 : decode cX9_incidentPump 11 = .ok (.goto 9, 3) := by decide +kernel
theorem dX9_incidentPump_14 : decode cX9_incidentPump 14 = .ok (.aload_n 0, 1) := by decide +kernel
theorem dX9_incidentPump_15 : decode cX9_incidentPump 15 = .ok (.getfield 19, 3) := by decide +kernel
theorem dX9_incidentPump_18 : decode cX9_incidentPump 18 = .ok (.iload_n 2, 1) := by decide +kernel
theorem dX9_incidentPump_19 : decode cX9_incidentPump 19 = .ok (.iaload, 1) := by decide +kernel
theorem dX9_incidentPump_20 : decode cX9_incidentPump 20 = .ok (.ireturn, 1) := by decide +kernel
theorem dX9_incidentTime_0 : decode cX9_incidentTime 0 = .ok (.aload_n 0, 1) := by decide +kernel
theorem dX9_incidentTime_1 : decode cX9_incidentTime 1 = .ok (.iload_n 1, 1) := by decide +kernel
theorem dX9_incidentTime_2 : decode cX9_incidentTime 2 = .ok (.invokevirtual 185, 3) := by decide +kernel
theorem dX9_incidentTime_5 : decode cX9_incidentTime 5 = .ok (.istore_n 2, 1) := by decide +kernel
theorem dX9_incidentTime_6 : decode cX9_incidentTime 6 = .ok (.iload_n 2, 1) := by decide +kernel
theorem dX9_incidentTime_7 : decode cX9_incidentTime 7 = .ok (.ifCond .ge 7, 3) := by decide +kernel
theorem dX9_incidentTime_10 : decode cX9_incidentTime 10 = .ok (.iload_n 2, 1) := by decide +kernel
theorem dX9_incidentTime_11 : decode cX9_incidentTime 11 = .ok (.goto 9, 3) := by decide +kernel
theorem dX9_incidentTime_14 : decode cX9_incidentTime 14 = .ok (.aload_n 0, 1) := by decide +kernel
theorem dX9_incidentTime_15 : decode cX9_incidentTime 15 = .ok (.getfield 22, 3) := by decide +kernel
theorem dX9_incidentTime_18 : decode cX9_incidentTime 18 = .ok (.iload_n 2, 1) := by decide +kernel
theorem dX9_incidentTime_19 : decode cX9_incidentTime 19 = .ok (.iaload, 1) := by decide +kernel
theorem dX9_incidentTime_20 : decode cX9_incidentTime 20 = .ok (.ireturn, 1) := by decide +kernel
theorem dX9_told_0 : decode cX9_told 0 = .ok (.aload_n 0, 1) := by decide +kernel
theorem dX9_told_1 : decode cX9_told 1 = .ok (.iload_n 1, 1) := by decide +kernel
theorem dX9_told_2 : decode cX9_told 2 = .ok (.invokevirtual 106, 3) := by decide +kernel
theorem dX9_told_5 : decode cX9_told 5 = .ok (.ifCond .eq 17, 3) := by decide +kernel
theorem dX9_told_8 : decode cX9_told 8 = .ok (.aload_n 0, 1) := by decide +kernel
theorem dX9_told_9 : decode cX9_told 9 = .ok (.getfield 7, 3) := by decide +kernel
theorem dX9_told_12 : decode cX9_told 12 = .ok (.iload_n 1, 1) := by decide +kernel
theorem dX9_told_13 : decode cX9_told 13 = .ok (.invokestatic 39, 3) := by decide +kernel
theorem dX9_told_16 : decode cX9_told 16 = .ok (.iload_n 2, 1) := by decide +kernel
theorem dX9_told_17 : decode cX9_told 17 = .ok (.iadd, 1) := by decide +kernel
theorem dX9_told_18 : decode cX9_told 18 = .ok (.iaload, 1) := by decide +kernel
theorem dX9_told_19 : decode cX9_told 19 = .ok (.goto 6, 3) := by decide +kernel
theorem dX9_told_22 : decode cX9_told 22 = .ok (.sipush (-1001), 3) := by decide +kernel
theorem dX9_told_25 : decode cX9_told 25 = .ok (.ireturn, 1) := by decide +kernel
theorem dX9_phase_0 : decode cX9_phase 0 = .ok (.aload_n 0, 1) := by decide +kernel
theorem dX9_phase_1 : decode cX9_phase 1 = .ok (.iload_n 1, 1) := by decide +kernel
theorem dX9_phase_2 : decode cX9_phase 2 = .ok (.invokevirtual 106, 3) := by decide +kernel
theorem dX9_phase_5 : decode cX9_phase 5 = .ok (.ifCond .ne 7, 3) := by decide +kernel
theorem dX9_phase_8 : decode cX9_phase 8 = .ok (.sipush (-1001), 3) := by decide +kernel
theorem dX9_phase_11 : decode cX9_phase 11 = .ok (.ireturn, 1) := by decide +kernel
theorem dX9_phase_12 : decode cX9_phase 12 = .ok (.aload_n 0, 1) := by decide +kernel
theorem dX9_phase_13 : decode cX9_phase 13 = .ok (.getfield 7, 3) := by decide +kernel
theorem dX9_phase_16 : decode cX9_phase 16 = .ok (.iload_n 1, 1) := by decide +kernel
theorem dX9_phase_17 : decode cX9_phase 17 = .ok (.invokestatic 39, 3) := by decide +kernel
theorem dX9_phase_20 : decode cX9_phase 20 = .ok (.iconst 5, 1) := by decide +kernel
theorem dX9_phase_21 : decode cX9_phase 21 = .ok (.iadd, 1) := by decide +kernel
theorem dX9_phase_22 : decode cX9_phase 22 = .ok (.iaload, 1) := by decide +kernel
theorem dX9_phase_23 : decode cX9_phase 23 = .ok (.ifCond .ne 7, 3) := by decide +kernel
theorem dX9_phase_26 : decode cX9_phase 26 = .ok (.iconst 0, 1) := by decide +kernel
theorem dX9_phase_27 : decode cX9_phase 27 = .ok (.goto 17, 3) := by decide +kernel
theorem dX9_phase_30 : decode cX9_phase 30 = .ok (.iconst 1, 1) := by decide +kernel
theorem dX9_phase_31 : decode cX9_phase 31 = .ok (.aload_n 0, 1) := by decide +kernel
theorem dX9_phase_32 : decode cX9_phase 32 = .ok (.getfield 7, 3) := by decide +kernel
theorem dX9_phase_35 : decode cX9_phase 35 = .ok (.iload_n 1, 1) := by decide +kernel
theorem dX9_phase_36 : decode cX9_phase 36 = .ok (.invokestatic 39, 3) := by decide +kernel
theorem dX9_phase_39 : decode cX9_phase 39 = .ok (.bipush 7, 2) := by decide +kernel
theorem dX9_phase_41 : decode cX9_phase 41 = .ok (.iadd, 1) := by decide +kernel
theorem dX9_phase_42 : decode cX9_phase 42 = .ok (.iaload, 1) := by decide +kernel
theorem dX9_phase_43 : decode cX9_phase 43 = .ok (.iadd, 1) := by decide +kernel
theorem dX9_phase_44 : decode cX9_phase 44 = .ok (.ireturn, 1) := by decide +kernel
theorem dX9_speed_0 : decode cX9_speed 0 = .ok (.aload_n 0, 1) := by decide +kernel
theorem dX9_speed_1 : decode cX9_speed 1 = .ok (.iload_n 1, 1) := by decide +kernel
theorem dX9_speed_2 : decode cX9_speed 2 = .ok (.bipush 6, 2) := by decide +kernel
theorem dX9_speed_4 : decode cX9_speed 4 = .ok (.invokevirtual 188, 3) := by decide +kernel
theorem dX9_speed_7 : decode cX9_speed 7 = .ok (.ireturn, 1) := by decide +kernel
theorem dX9_openTicks_0 : decode cX9_openTicks 0 = .ok (.aload_n 0, 1) := by decide +kernel
theorem dX9_openTicks_1 : decode cX9_openTicks 1 = .ok (.iload_n 1, 1) := by decide +kernel
theorem dX9_openTicks_2 : decode cX9_openTicks 2 = .ok (.bipush 8, 2) := by decide +kernel
theorem dX9_openTicks_4 : decode cX9_openTicks 4 = .ok (.invokevirtual 188, 3) := by decide +kernel
theorem dX9_openTicks_7 : decode cX9_openTicks 7 = .ok (.ireturn, 1) := by decide +kernel
theorem dX9_chamberWater_0 : decode cX9_chamberWater 0 = .ok (.aload_n 0, 1) := by decide +kernel
theorem dX9_chamberWater_1 : decode cX9_chamberWater 1 = .ok (.iload_n 1, 1) := by decide +kernel
theorem dX9_chamberWater_2 : decode cX9_chamberWater 2 = .ok (.bipush 13, 2) := by decide +kernel
theorem dX9_chamberWater_4 : decode cX9_chamberWater 4 = .ok (.invokevirtual 188, 3) := by decide +kernel
theorem dX9_chamberWater_7 : decode cX9_chamberWater 7 = .ok (.ireturn, 1) := by decide +kernel
theorem dX9_air_0 : decode cX9_air 0 = .ok (.aload_n 0, 1) := by decide +kernel
theorem dX9_air_1 : decode cX9_air 1 = .ok (.iload_n 1, 1) := by decide +kernel
theorem dX9_air_2 : decode cX9_air 2 = .ok (.bipush 14, 2) := by decide +kernel
theorem dX9_air_4 : decode cX9_air 4 = .ok (.invokevirtual 188, 3) := by decide +kernel
theorem dX9_air_7 : decode cX9_air 7 = .ok (.ireturn, 1) := by decide +kernel
theorem dX9_chamberHead_0 : decode cX9_chamberHead 0 = .ok (.aload_n 0, 1) := by decide +kernel
theorem dX9_chamberHead_1 : decode cX9_chamberHead 1 = .ok (.iload_n 1, 1) := by decide +kernel
theorem dX9_chamberHead_2 : decode cX9_chamberHead 2 = .ok (.invokevirtual 106, 3) := by decide +kernel
theorem dX9_chamberHead_5 : decode cX9_chamberHead 5 = .ok (.ifCond .eq 14, 3) := by decide +kernel
theorem dX9_chamberHead_8 : decode cX9_chamberHead 8 = .ok (.aload_n 0, 1) := by decide +kernel
theorem dX9_chamberHead_9 : decode cX9_chamberHead 9 = .ok (.iload_n 1, 1) := by decide +kernel
theorem dX9_chamberHead_10 : decode cX9_chamberHead 10 = .ok (.invokestatic 39, 3) := by decide +kernel
theorem dX9_chamberHead_13 : decode cX9_chamberHead 13 = .ok (.invokevirtual 72, 3) := by decide +kernel
theorem dX9_chamberHead_16 : decode cX9_chamberHead 16 = .ok (.goto 6, 3) := by decide +kernel
theorem dX9_chamberHead_19 : decode cX9_chamberHead 19 = .ok (.sipush (-1001), 3) := by decide +kernel
theorem dX9_chamberHead_22 : decode cX9_chamberHead 22 = .ok (.ireturn, 1) := by decide +kernel
theorem dX9_beats_0 : decode cX9_beats 0 = .ok (.aload_n 0, 1) := by decide +kernel
theorem dX9_beats_1 : decode cX9_beats 1 = .ok (.iload_n 1, 1) := by decide +kernel
theorem dX9_beats_2 : decode cX9_beats 2 = .ok (.bipush 16, 2) := by decide +kernel
theorem dX9_beats_4 : decode cX9_beats 4 = .ok (.invokevirtual 188, 3) := by decide +kernel
theorem dX9_beats_7 : decode cX9_beats 7 = .ok (.ireturn, 1) := by decide +kernel
theorem dX9_wasted_0 : decode cX9_wasted 0 = .ok (.aload_n 0, 1) := by decide +kernel
theorem dX9_wasted_1 : decode cX9_wasted 1 = .ok (.iload_n 1, 1) := by decide +kernel
theorem dX9_wasted_2 : decode cX9_wasted 2 = .ok (.bipush 17, 2) := by decide +kernel
theorem dX9_wasted_4 : decode cX9_wasted 4 = .ok (.invokevirtual 188, 3) := by decide +kernel
theorem dX9_wasted_7 : decode cX9_wasted 7 = .ok (.ireturn, 1) := by decide +kernel
theorem dX9_relieved_0 : decode cX9_relieved 0 = .ok (.aload_n 0, 1) := by decide +kernel
theorem dX9_relieved_1 : decode cX9_relieved 1 = .ok (.iload_n 1, 1) := by decide +kernel
theorem dX9_relieved_2 : decode cX9_relieved 2 = .ok (.bipush 18, 2) := by decide +kernel
theorem dX9_relieved_4 : decode cX9_relieved 4 = .ok (.invokevirtual 188, 3) := by decide +kernel
theorem dX9_relieved_7 : decode cX9_relieved 7 = .ok (.ireturn, 1) := by decide +kernel
theorem dX9_lifted_0 : decode cX9_lifted 0 = .ok (.aload_n 0, 1) := by decide +kernel
theorem dX9_lifted_1 : decode cX9_lifted 1 = .ok (.iload_n 1, 1) := by decide +kernel
theorem dX9_lifted_2 : decode cX9_lifted 2 = .ok (.bipush 19, 2) := by decide +kernel
theorem dX9_lifted_4 : decode cX9_lifted 4 = .ok (.invokevirtual 188, 3) := by decide +kernel
theorem dX9_lifted_7 : decode cX9_lifted 7 = .ok (.ireturn, 1) := by decide +kernel
theorem dX9_overflowed_0 : decode cX9_overflowed 0 = .ok (.aload_n 0, 1) := by decide +kernel
theorem dX9_overflowed_1 : decode cX9_overflowed 1 = .ok (.iload_n 1, 1) := by decide +kernel
theorem dX9_overflowed_2 : decode cX9_overflowed 2 = .ok (.bipush 20, 2) := by decide +kernel
theorem dX9_overflowed_4 : decode cX9_overflowed 4 = .ok (.invokevirtual 188, 3) := by decide +kernel
theorem dX9_overflowed_7 : decode cX9_overflowed 7 = .ok (.ireturn, 1) := by decide +kernel
theorem dX9_starved_0 : decode cX9_starved 0 = .ok (.aload_n 0, 1) := by decide +kernel
theorem dX9_starved_1 : decode cX9_starved 1 = .ok (.iload_n 1, 1) := by decide +kernel
theorem dX9_starved_2 : decode cX9_starved 2 = .ok (.bipush 21, 2) := by decide +kernel
theorem dX9_starved_4 : decode cX9_starved 4 = .ok (.invokevirtual 188, 3) := by decide +kernel
theorem dX9_starved_7 : decode cX9_starved 7 = .ok (.ireturn, 1) := by decide +kernel
theorem dX9_tank_0 : decode cX9_tank 0 = .ok (.aload_n 0, 1) := by decide +kernel
theorem dX9_tank_1 : decode cX9_tank 1 = .ok (.iload_n 1, 1) := by decide +kernel
theorem dX9_tank_2 : decode cX9_tank 2 = .ok (.bipush 15, 2) := by decide +kernel
theorem dX9_tank_4 : decode cX9_tank 4 = .ok (.invokevirtual 188, 3) := by decide +kernel
theorem dX9_tank_7 : decode cX9_tank 7 = .ok (.ireturn, 1) := by decide +kernel
theorem dX9_kept_0 : decode cX9_kept 0 = .ok (.aload_n 0, 1) := by decide +kernel
theorem dX9_kept_1 : decode cX9_kept 1 = .ok (.iload_n 1, 1) := by decide +kernel
theorem dX9_kept_2 : decode cX9_kept 2 = .ok (.invokevirtual 106, 3) := by decide +kernel
theorem dX9_kept_5 : decode cX9_kept 5 = .ok (.ifCond .ne 7, 3) := by decide +kernel
theorem dX9_kept_8 : decode cX9_kept 8 = .ok (.sipush (-1001), 3) := by decide +kernel
theorem dX9_kept_11 : decode cX9_kept 11 = .ok (.ireturn, 1) := by decide +kernel
theorem dX9_kept_12 : decode cX9_kept 12 = .ok (.iload_n 2, 1) := by decide +kernel
theorem dX9_kept_13 : decode cX9_kept 13 = .ok (.ifCond .ge 7, 3) := by decide +kernel
theorem dX9_kept_16 : decode cX9_kept 16 = .ok (.sipush (-1002), 3) := by decide +kernel
theorem dX9_kept_19 : decode cX9_kept 19 = .ok (.ireturn, 1) := by decide +kernel
theorem dX9_kept_20 : decode cX9_kept 20 = .ok (.iload_n 2, 1) := by decide +kernel
theorem dX9_kept_21 : decode cX9_kept 21 = .ok (.aload_n 0, 1) := by decide +kernel
theorem dX9_kept_22 : decode cX9_kept 22 = .ok (.getfield 7, 3) := by decide +kernel
theorem dX9_kept_25 : decode cX9_kept 25 = .ok (.iload_n 1, 1) := by decide +kernel
theorem dX9_kept_26 : decode cX9_kept 26 = .ok (.invokestatic 39, 3) := by decide +kernel
theorem dX9_kept_29 : decode cX9_kept 29 = .ok (.iload_n 3, 1) := by decide +kernel
theorem dX9_kept_30 : decode cX9_kept 30 = .ok (.iadd, 1) := by decide +kernel
theorem dX9_kept_31 : decode cX9_kept 31 = .ok (.iaload, 1) := by decide +kernel
theorem dX9_kept_32 : decode cX9_kept 32 = .ok (.if_icmp .ge 20, 3) := by decide +kernel
theorem dX9_kept_35 : decode cX9_kept 35 = .ok (.aload_n 0, 1) := by decide +kernel
theorem dX9_kept_36 : decode cX9_kept 36 = .ok (.getfield 7, 3) := by decide +kernel
theorem dX9_kept_39 : decode cX9_kept 39 = .ok (.iload_n 1, 1) := by decide +kernel
theorem dX9_kept_40 : decode cX9_kept 40 = .ok (.invokestatic 39, 3) := by decide +kernel
theorem dX9_kept_43 : decode cX9_kept 43 = .ok (.iload 4, 2) := by decide +kernel
theorem dX9_kept_45 : decode cX9_kept 45 = .ok (.iadd, 1) := by decide +kernel
theorem dX9_kept_46 : decode cX9_kept 46 = .ok (.iload_n 2, 1) := by decide +kernel
theorem dX9_kept_47 : decode cX9_kept 47 = .ok (.iadd, 1) := by decide +kernel
theorem dX9_kept_48 : decode cX9_kept 48 = .ok (.iaload, 1) := by decide +kernel
theorem dX9_kept_49 : decode cX9_kept 49 = .ok (.goto 6, 3) := by decide +kernel
theorem dX9_kept_52 : decode cX9_kept 52 = .ok (.sipush (-1005), 3) := by decide +kernel
theorem dX9_kept_55 : decode cX9_kept 55 = .ok (.ireturn, 1) := by decide +kernel
theorem dX9_interval_0 : decode cX9_interval 0 = .ok (.aload_n 0, 1) := by decide +kernel
theorem dX9_interval_1 : decode cX9_interval 1 = .ok (.iload_n 1, 1) := by decide +kernel
theorem dX9_interval_2 : decode cX9_interval 2 = .ok (.iload_n 2, 1) := by decide +kernel
theorem dX9_interval_3 : decode cX9_interval 3 = .ok (.bipush 23, 2) := by decide +kernel
theorem dX9_interval_5 : decode cX9_interval 5 = .ok (.bipush 24, 2) := by decide +kernel
theorem dX9_interval_7 : decode cX9_interval 7 = .ok (.invokevirtual 191, 3) := by decide +kernel
theorem dX9_interval_10 : decode cX9_interval 10 = .ok (.ireturn, 1) := by decide +kernel
theorem dX9_trace_0 : decode cX9_trace 0 = .ok (.aload_n 0, 1) := by decide +kernel
theorem dX9_trace_1 : decode cX9_trace 1 = .ok (.iload_n 1, 1) := by decide +kernel
theorem dX9_trace_2 : decode cX9_trace 2 = .ok (.iload_n 2, 1) := by decide +kernel
theorem dX9_trace_3 : decode cX9_trace 3 = .ok (.bipush 40, 2) := by decide +kernel
theorem dX9_trace_5 : decode cX9_trace 5 = .ok (.bipush 41, 2) := by decide +kernel
theorem dX9_trace_7 : decode cX9_trace 7 = .ok (.invokevirtual 191, 3) := by decide +kernel
theorem dX9_trace_10 : decode cX9_trace 10 = .ok (.ireturn, 1) := by decide +kernel
theorem dX9_efficiencyOf_0 : decode cX9_efficiencyOf 0 = .ok (.aload_n 0, 1) := by decide +kernel
theorem dX9_efficiencyOf_1 : decode cX9_efficiencyOf 1 = .ok (.getfield 7, 3) := by decide +kernel
theorem dX9_efficiencyOf_4 : decode cX9_efficiencyOf 4 = .ok (.iload_n 1, 1) := by decide +kernel
theorem dX9_efficiencyOf_5 : decode cX9_efficiencyOf 5 = .ok (.bipush 17, 2) := by decide +kernel
theorem dX9_efficiencyOf_7 : decode cX9_efficiencyOf 7 = .ok (.iadd, 1) := by decide +kernel
theorem dX9_efficiencyOf_8 : decode cX9_efficiencyOf 8 = .ok (.iaload, 1) := by decide +kernel
theorem dX9_efficiencyOf_9 : decode cX9_efficiencyOf 9 = .ok (.i2l, 1) := by decide +kernel
theorem dX9_efficiencyOf_10 : decode cX9_efficiencyOf 10 = .ok (.aload_n 0, 1) := by decide +kernel
theorem dX9_efficiencyOf_11 : decode cX9_efficiencyOf 11 = .ok (.getfield 7, 3) := by decide +kernel
theorem dX9_efficiencyOf_14 : decode cX9_efficiencyOf 14 = .ok (.iload_n 1, 1) := by decide +kernel
theorem dX9_efficiencyOf_15 : decode cX9_efficiencyOf 15 = .ok (.bipush 18, 2) := by decide +kernel
theorem dX9_efficiencyOf_17 : decode cX9_efficiencyOf 17 = .ok (.iadd, 1) := by decide +kernel
theorem dX9_efficiencyOf_18 : decode cX9_efficiencyOf 18 = .ok (.iaload, 1) := by decide +kernel
theorem dX9_efficiencyOf_19 : decode cX9_efficiencyOf 19 = .ok (.i2l, 1) := by decide +kernel
theorem dX9_efficiencyOf_20 : decode cX9_efficiencyOf 20 = .ok (.ladd, 1) := by decide +kernel
theorem dX9_efficiencyOf_21 : decode cX9_efficiencyOf 21 = .ok (.aload_n 0, 1) := by decide +kernel
theorem dX9_efficiencyOf_22 : decode cX9_efficiencyOf 22 = .ok (.getfield 7, 3) := by decide +kernel
theorem dX9_efficiencyOf_25 : decode cX9_efficiencyOf 25 = .ok (.iload_n 1, 1) := by decide +kernel
theorem dX9_efficiencyOf_26 : decode cX9_efficiencyOf 26 = .ok (.bipush 19, 2) := by decide +kernel
theorem dX9_efficiencyOf_28 : decode cX9_efficiencyOf 28 = .ok (.iadd, 1) := by decide +kernel
theorem dX9_efficiencyOf_29 : decode cX9_efficiencyOf 29 = .ok (.iaload, 1) := by decide +kernel
theorem dX9_efficiencyOf_30 : decode cX9_efficiencyOf 30 = .ok (.i2l, 1) := by decide +kernel
theorem dX9_efficiencyOf_31 : decode cX9_efficiencyOf 31 = .ok (.ladd, 1) := by decide +kernel
theorem dX9_efficiencyOf_32 : decode cX9_efficiencyOf 32 = .ok (.lstore_n 2, 1) := by decide +kernel
theorem dX9_efficiencyOf_33 : decode cX9_efficiencyOf 33 = .ok (.lload_n 2, 1) := by decide +kernel
theorem dX9_efficiencyOf_34 : decode cX9_efficiencyOf 34 = .ok (.lconst 0, 1) := by decide +kernel
theorem dX9_efficiencyOf_35 : decode cX9_efficiencyOf 35 = .ok (.lcmp, 1) := by decide +kernel
theorem dX9_efficiencyOf_36 : decode cX9_efficiencyOf 36 = .ok (.ifCond .ne 9, 3) := by decide +kernel
theorem dX9_efficiencyOf_39 : decode cX9_efficiencyOf 39 = .ok (.sipush (-1005), 3) := by decide +kernel
theorem dX9_efficiencyOf_42 : decode cX9_efficiencyOf 42 = .ok (.goto 40, 3) := by decide +kernel
theorem dX9_efficiencyOf_45 : decode cX9_efficiencyOf 45 = .ok (.ldc2_w 195, 3) := by decide +kernel
theorem dX9_efficiencyOf_48 : decode cX9_efficiencyOf 48 = .ok (.aload_n 0, 1) := by decide +kernel
theorem dX9_efficiencyOf_49 : decode cX9_efficiencyOf 49 = .ok (.getfield 7, 3) := by decide +kernel
theorem dX9_efficiencyOf_52 : decode cX9_efficiencyOf 52 = .ok (.iload_n 1, 1) := by decide +kernel
theorem dX9_efficiencyOf_53 : decode cX9_efficiencyOf 53 = .ok (.bipush 19, 2) := by decide +kernel
theorem dX9_efficiencyOf_55 : decode cX9_efficiencyOf 55 = .ok (.iadd, 1) := by decide +kernel
theorem dX9_efficiencyOf_56 : decode cX9_efficiencyOf 56 = .ok (.iaload, 1) := by decide +kernel
theorem dX9_efficiencyOf_57 : decode cX9_efficiencyOf 57 = .ok (.i2l, 1) := by decide +kernel
theorem dX9_efficiencyOf_58 : decode cX9_efficiencyOf 58 = .ok (.lmul, 1) := by decide +kernel
theorem dX9_efficiencyOf_59 : decode cX9_efficiencyOf 59 = .ok (.aload_n 0, 1) := by decide +kernel
theorem dX9_efficiencyOf_60 : decode cX9_efficiencyOf 60 = .ok (.getfield 7, 3) := by decide +kernel
theorem dX9_efficiencyOf_63 : decode cX9_efficiencyOf 63 = .ok (.iload_n 1, 1) := by decide +kernel
theorem dX9_efficiencyOf_64 : decode cX9_efficiencyOf 64 = .ok (.iconst 4, 1) := by decide +kernel
theorem dX9_efficiencyOf_65 : decode cX9_efficiencyOf 65 = .ok (.iadd, 1) := by decide +kernel
theorem dX9_efficiencyOf_66 : decode cX9_efficiencyOf 66 = .ok (.iaload, 1) := by decide +kernel
theorem dX9_efficiencyOf_67 : decode cX9_efficiencyOf 67 = .ok (.i2l, 1) := by decide +kernel
theorem dX9_efficiencyOf_68 : decode cX9_efficiencyOf 68 = .ok (.lmul, 1) := by decide +kernel
theorem dX9_efficiencyOf_69 : decode cX9_efficiencyOf 69 = .ok (.lload_n 2, 1) := by decide +kernel
theorem dX9_efficiencyOf_70 : decode cX9_efficiencyOf 70 = .ok (.aload_n 0, 1) := by decide +kernel
theorem dX9_efficiencyOf_71 : decode cX9_efficiencyOf 71 = .ok (.getfield 7, 3) := by decide +kernel
theorem dX9_efficiencyOf_74 : decode cX9_efficiencyOf 74 = .ok (.iload_n 1, 1) := by decide +kernel
theorem dX9_efficiencyOf_75 : decode cX9_efficiencyOf 75 = .ok (.iconst 0, 1) := by decide +kernel
theorem dX9_efficiencyOf_76 : decode cX9_efficiencyOf 76 = .ok (.iadd, 1) := by decide +kernel
theorem dX9_efficiencyOf_77 : decode cX9_efficiencyOf 77 = .ok (.iaload, 1) := by decide +kernel
theorem dX9_efficiencyOf_78 : decode cX9_efficiencyOf 78 = .ok (.i2l, 1) := by decide +kernel
theorem dX9_efficiencyOf_79 : decode cX9_efficiencyOf 79 = .ok (.lmul, 1) := by decide +kernel
theorem dX9_efficiencyOf_80 : decode cX9_efficiencyOf 80 = .ok (.ldiv, 1) := by decide +kernel
theorem dX9_efficiencyOf_81 : decode cX9_efficiencyOf 81 = .ok (.l2i, 1) := by decide +kernel
theorem dX9_efficiencyOf_82 : decode cX9_efficiencyOf 82 = .ok (.ireturn, 1) := by decide +kernel
theorem dX9_efficiency_0 : decode cX9_efficiency 0 = .ok (.aload_n 0, 1) := by decide +kernel
theorem dX9_efficiency_1 : decode cX9_efficiency 1 = .ok (.iload_n 1, 1) := by decide +kernel
theorem dX9_efficiency_2 : decode cX9_efficiency 2 = .ok (.invokevirtual 106, 3) := by decide +kernel
theorem dX9_efficiency_5 : decode cX9_efficiency 5 = .ok (.ifCond .eq 14, 3) := by decide +kernel
theorem dX9_efficiency_8 : decode cX9_efficiency 8 = .ok (.aload_n 0, 1) := by decide +kernel
theorem dX9_efficiency_9 : decode cX9_efficiency 9 = .ok (.iload_n 1, 1) := by decide +kernel
theorem dX9_efficiency_10 : decode cX9_efficiency 10 = .ok (.invokestatic 39, 3) := by decide +kernel
theorem dX9_efficiency_13 : decode cX9_efficiency 13 = .ok (.invokevirtual 197, 3) := by decide +kernel
theorem dX9_efficiency_16 : decode cX9_efficiency 16 = .ok (.goto 6, 3) := by decide +kernel
theorem dX9_efficiency_19 : decode cX9_efficiency 19 = .ok (.sipush (-1001), 3) := by decide +kernel
theorem dX9_efficiency_22 : decode cX9_efficiency 22 = .ok (.ireturn, 1) := by decide +kernel
theorem dX9_bestPump_0 : decode cX9_bestPump 0 = .ok (.sipush (-1005), 3) := by decide +kernel
theorem dX9_bestPump_3 : decode cX9_bestPump 3 = .ok (.istore_n 1, 1) := by decide +kernel
theorem dX9_bestPump_4 : decode cX9_bestPump 4 = .ok (.sipush (-1005), 3) := by decide +kernel
theorem dX9_bestPump_7 : decode cX9_bestPump 7 = .ok (.istore_n 2, 1) := by decide +kernel
theorem dX9_bestPump_8 : decode cX9_bestPump 8 = .ok (.iconst 0, 1) := by decide +kernel
theorem dX9_bestPump_9 : decode cX9_bestPump 9 = .ok (.istore_n 3, 1) := by decide +kernel
theorem dX9_bestPump_10 : decode cX9_bestPump 10 = .ok (.iload_n 3, 1) := by decide +kernel
theorem dX9_bestPump_11 : decode cX9_bestPump 11 = .ok (.aload_n 0, 1) := by decide +kernel
theorem dX9_bestPump_12 : decode cX9_bestPump 12 = .ok (.getfield 7, 3) := by decide +kernel
theorem dX9_bestPump_15 : decode cX9_bestPump 15 = .ok (.iconst 4, 1) := by decide +kernel
theorem dX9_bestPump_16 : decode cX9_bestPump 16 = .ok (.iaload, 1) := by decide +kernel
theorem dX9_bestPump_17 : decode cX9_bestPump 17 = .ok (.if_icmp .ge 44, 3) := by decide +kernel
theorem dX9_bestPump_20 : decode cX9_bestPump 20 = .ok (.aload_n 0, 1) := by decide +kernel
theorem dX9_bestPump_21 : decode cX9_bestPump 21 = .ok (.iload_n 3, 1) := by decide +kernel
theorem dX9_bestPump_22 : decode cX9_bestPump 22 = .ok (.invokestatic 39, 3) := by decide +kernel
theorem dX9_bestPump_25 : decode cX9_bestPump 25 = .ok (.invokevirtual 197, 3) := by decide +kernel
theorem dX9_bestPump_28 : decode cX9_bestPump 28 = .ok (.istore 4, 2) := by decide +kernel
theorem dX9_bestPump_30 : decode cX9_bestPump 30 = .ok (.iload 4, 2) := by decide +kernel
theorem dX9_bestPump_32 : decode cX9_bestPump 32 = .ok (.iload_n 2, 1) := by decide +kernel
theorem dX9_bestPump_33 : decode cX9_bestPump 33 = .ok (.if_icmp .le 7, 3) := by decide +kernel
theorem dX9_bestPump_36 : decode cX9_bestPump 36 = .ok (.iload_n 3, 1) := by decide +kernel
theorem dX9_bestPump_37 : decode cX9_bestPump 37 = .ok (.goto 4, 3) := by decide +kernel
theorem dX9_bestPump_40 : decode cX9_bestPump 40 = .ok (.iload_n 1, 1) := by decide +kernel
theorem dX9_bestPump_41 : decode cX9_bestPump 41 = .ok (.istore_n 1, 1) := by decide +kernel
theorem dX9_bestPump_42 : decode cX9_bestPump 42 = .ok (.iload 4, 2) := by decide +kernel
theorem dX9_bestPump_44 : decode cX9_bestPump 44 = .ok (.iload_n 2, 1) := by decide +kernel
theorem dX9_bestPump_45 : decode cX9_bestPump 45 = .ok (.if_icmp .le 8, 3) := by decide +kernel
theorem dX9_bestPump_48 : decode cX9_bestPump 48 = .ok (.iload 4, 2) := by decide +kernel
theorem dX9_bestPump_50 : decode cX9_bestPump 50 = .ok (.goto 4, 3) := by decide +kernel
theorem dX9_bestPump_53 : decode cX9_bestPump 53 = .ok (.iload_n 2, 1) := by decide +kernel
theorem dX9_bestPump_54 : decode cX9_bestPump 54 = .ok (.istore_n 2, 1) := by decide +kernel
theorem dX9_bestPump_55 : decode cX9_bestPump 55 = .ok (.iinc 3 1, 3) := by decide +kernel
theorem dX9_bestPump_58 : decode cX9_bestPump 58 = .ok (.goto (-48), 3) := by decide +kernel
theorem dX9_bestPump_61 : decode cX9_bestPump 61 = .ok (.iload_n 1, 1) := by decide +kernel
theorem dX9_bestPump_62 : decode cX9_bestPump 62 = .ok (.ireturn, 1) := by decide +kernel
theorem dX9_beginTrial_0 : decode cX9_beginTrial 0 = .ok (.iconst 0, 1) := by decide +kernel
theorem dX9_beginTrial_1 : decode cX9_beginTrial 1 = .ok (.istore_n 3, 1) := by decide +kernel
theorem dX9_beginTrial_2 : decode cX9_beginTrial 2 = .ok (.iload_n 3, 1) := by decide +kernel
theorem dX9_beginTrial_3 : decode cX9_beginTrial 3 = .ok (.bipush 73, 2) := by decide +kernel
theorem dX9_beginTrial_5 : decode cX9_beginTrial 5 = .ok (.if_icmp .ge 30, 3) := by decide +kernel
theorem dX9_beginTrial_8 : decode cX9_beginTrial 8 = .ok (.aload_n 0, 1) := by decide +kernel
theorem dX9_beginTrial_9 : decode cX9_beginTrial 9 = .ok (.getfield 7, 3) := by decide +kernel
theorem dX9_beginTrial_12 : decode cX9_beginTrial 12 = .ok (.sipush 297, 3) := by decide +kernel
theorem dX9_beginTrial_15 : decode cX9_beginTrial 15 = .ok (.iload_n 3, 1) := by decide +kernel
theorem dX9_beginTrial_16 : decode cX9_beginTrial 16 = .ok (.iadd, 1) := by decide +kernel
theorem dX9_beginTrial_17 : decode cX9_beginTrial 17 = .ok (.aload_n 0, 1) := by decide +kernel
theorem dX9_beginTrial_18 : decode cX9_beginTrial 18 = .ok (.getfield 7, 3) := by decide +kernel
theorem dX9_beginTrial_21 : decode cX9_beginTrial 21 = .ok (.iload_n 1, 1) := by decide +kernel
theorem dX9_beginTrial_22 : decode cX9_beginTrial 22 = .ok (.invokestatic 39, 3) := by decide +kernel
theorem dX9_beginTrial_25 : decode cX9_beginTrial 25 = .ok (.iload_n 3, 1) := by decide +kernel
theorem dX9_beginTrial_26 : decode cX9_beginTrial 26 = .ok (.iadd, 1) := by decide +kernel
theorem dX9_beginTrial_27 : decode cX9_beginTrial 27 = .ok (.iaload, 1) := by decide +kernel
theorem dX9_beginTrial_28 : decode cX9_beginTrial 28 = .ok (.iastore, 1) := by decide +kernel
theorem dX9_beginTrial_29 : decode cX9_beginTrial 29 = .ok (.iinc 3 1, 3) := by decide +kernel
theorem dX9_beginTrial_32 : decode cX9_beginTrial 32 = .ok (.goto (-30), 3) := by decide +kernel
theorem dX9_beginTrial_35 : decode cX9_beginTrial 35 = .ok (.iload_n 2, 1) := by decide +kernel
theorem dX9_beginTrial_36 : decode cX9_beginTrial 36 = .ok (.ifCond .eq 10, 3) := by decide +kernel
theorem dX9_beginTrial_39 : decode cX9_beginTrial 39 = .ok (.aload_n 0, 1) := by decide +kernel
theorem dX9_beginTrial_40 : decode cX9_beginTrial 40 = .ok (.sipush 297, 3) := by decide +kernel
theorem dX9_beginTrial_43 : decode cX9_beginTrial 43 = .ok (.invokevirtual 75, 3) := by decide +kernel
theorem dX9_beginTrial_46 : decode cX9_beginTrial 46 = .ok (.aload_n 0, 1) := by decide +kernel
theorem dX9_beginTrial_47 : decode cX9_beginTrial 47 = .ok (.iconst 0, 1) := by decide +kernel
theorem dX9_beginTrial_48 : decode cX9_beginTrial 48 = .ok (.putfield 81, 3) := by decide +kernel
theorem dX9_beginTrial_51 : decode cX9_beginTrial 51 = .ok (.aload_n 0, 1) := by decide +kernel
theorem dX9_beginTrial_52 : decode cX9_beginTrial 52 = .ok (.iconst 0, 1) := by decide +kernel
theorem dX9_beginTrial_53 : decode cX9_beginTrial 53 = .ok (.putfield 78, 3) := by decide +kernel
theorem dX9_beginTrial_56 : decode cX9_beginTrial 56 = .ok (.return_, 1) := by decide +kernel
theorem dX9_goOn_0 : decode cX9_goOn 0 = .ok (.iconst 0, 1) := by decide +kernel
theorem dX9_goOn_1 : decode cX9_goOn 1 = .ok (.istore_n 2, 1) := by decide +kernel
theorem dX9_goOn_2 : decode cX9_goOn 2 = .ok (.iload_n 2, 1) := by decide +kernel
theorem dX9_goOn_3 : decode cX9_goOn 3 = .ok (.iload_n 1, 1) := by decide +kernel
theorem dX9_goOn_4 : decode cX9_goOn 4 = .ok (.if_icmp .ge 19, 3) := by decide +kernel
theorem dX9_goOn_7 : decode cX9_goOn 7 = .ok (.aload_n 0, 1) := by decide +kernel
theorem dX9_goOn_8 : decode cX9_goOn 8 = .ok (.sipush 297, 3) := by decide +kernel
theorem dX9_goOn_11 : decode cX9_goOn 11 = .ok (.sipush (-1005), 3) := by decide +kernel
theorem dX9_goOn_14 : decode cX9_goOn 14 = .ok (.invokevirtual 100, 3) := by decide +kernel
theorem dX9_goOn_17 : decode cX9_goOn 17 = .ok (.iinc 2 1, 3) := by decide +kernel
theorem dX9_goOn_20 : decode cX9_goOn 20 = .ok (.goto (-18), 3) := by decide +kernel
theorem dX9_goOn_23 : decode cX9_goOn 23 = .ok (.return_, 1) := by decide +kernel
theorem dX9_ticksToSlam_0 : decode cX9_ticksToSlam 0 = .ok (.aload_n 0, 1) := by decide +kernel
theorem dX9_ticksToSlam_1 : decode cX9_ticksToSlam 1 = .ok (.iload_n 1, 1) := by decide +kernel
theorem dX9_ticksToSlam_2 : decode cX9_ticksToSlam 2 = .ok (.invokevirtual 106, 3) := by decide +kernel
theorem dX9_ticksToSlam_5 : decode cX9_ticksToSlam 5 = .ok (.ifCond .ne 7, 3) := by decide +kernel
theorem dX9_ticksToSlam_8 : decode cX9_ticksToSlam 8 = .ok (.sipush (-1001), 3) := by decide +kernel
theorem dX9_ticksToSlam_11 : decode cX9_ticksToSlam 11 = .ok (.ireturn, 1) := by decide +kernel
theorem dX9_ticksToSlam_12 : decode cX9_ticksToSlam 12 = .ok (.aload_n 0, 1) := by decide +kernel
theorem dX9_ticksToSlam_13 : decode cX9_ticksToSlam 13 = .ok (.iload_n 1, 1) := by decide +kernel
theorem dX9_ticksToSlam_14 : decode cX9_ticksToSlam 14 = .ok (.iconst 0, 1) := by decide +kernel
theorem dX9_ticksToSlam_15 : decode cX9_ticksToSlam 15 = .ok (.invokevirtual 200, 3) := by decide +kernel
theorem dX9_ticksToSlam_18 : decode cX9_ticksToSlam 18 = .ok (.aload_n 0, 1) := by decide +kernel
theorem dX9_ticksToSlam_19 : decode cX9_ticksToSlam 19 = .ok (.iconst 0, 1) := by decide +kernel
theorem dX9_ticksToSlam_20 : decode cX9_ticksToSlam 20 = .ok (.putfield 49, 3) := by decide +kernel
theorem dX9_ticksToSlam_23 : decode cX9_ticksToSlam 23 = .ok (.iconst 1, 1) := by decide +kernel
theorem dX9_ticksToSlam_24 : decode cX9_ticksToSlam 24 = .ok (.istore_n 2, 1) := by decide +kernel
theorem dX9_ticksToSlam_25 : decode cX9_ticksToSlam 25 = .ok (.iload_n 2, 1) := by decide +kernel
theorem dX9_ticksToSlam_26 : decode cX9_ticksToSlam 26 = .ok (.sipush 2000, 3) := by decide +kernel
theorem dX9_ticksToSlam_29 : decode cX9_ticksToSlam 29 = .ok (.if_icmp .gt 28, 3) := by decide +kernel
theorem dX9_ticksToSlam_32 : decode cX9_ticksToSlam 32 = .ok (.aload_n 0, 1) := by decide +kernel
theorem dX9_ticksToSlam_33 : decode cX9_ticksToSlam 33 = .ok (.sipush 297, 3) := by decide +kernel
theorem dX9_ticksToSlam_36 : decode cX9_ticksToSlam 36 = .ok (.sipush (-1005), 3) := by decide +kernel
theorem dX9_ticksToSlam_39 : decode cX9_ticksToSlam 39 = .ok (.invokevirtual 100, 3) := by decide +kernel
theorem dX9_ticksToSlam_42 : decode cX9_ticksToSlam 42 = .ok (.aload_n 0, 1) := by decide +kernel
theorem dX9_ticksToSlam_43 : decode cX9_ticksToSlam 43 = .ok (.getfield 49, 3) := by decide +kernel
theorem dX9_ticksToSlam_46 : decode cX9_ticksToSlam 46 = .ok (.ifCond .eq 5, 3) := by decide +kernel
theorem dX9_ticksToSlam_49 : decode cX9_ticksToSlam 49 = .ok (.iload_n 2, 1) := by decide +kernel
theorem dX9_ticksToSlam_50 : decode cX9_ticksToSlam 50 = .ok (.ireturn, 1) := by decide +kernel
theorem dX9_ticksToSlam_51 : decode cX9_ticksToSlam 51 = .ok (.iinc 2 1, 3) := by decide +kernel
theorem dX9_ticksToSlam_54 : decode cX9_ticksToSlam 54 = .ok (.goto (-29), 3) := by decide +kernel
theorem dX9_ticksToSlam_57 : decode cX9_ticksToSlam 57 = .ok (.sipush (-1005), 3) := by decide +kernel
theorem dX9_ticksToSlam_60 : decode cX9_ticksToSlam 60 = .ok (.ireturn, 1) := by decide +kernel
theorem dX9_trialRefused_0 : decode cX9_trialRefused 0 = .ok (.aload_n 0, 1) := by decide +kernel
theorem dX9_trialRefused_1 : decode cX9_trialRefused 1 = .ok (.iload_n 1, 1) := by decide +kernel
theorem dX9_trialRefused_2 : decode cX9_trialRefused 2 = .ok (.invokevirtual 106, 3) := by decide +kernel
theorem dX9_trialRefused_5 : decode cX9_trialRefused 5 = .ok (.ifCond .ne 9, 3) := by decide +kernel
theorem dX9_trialRefused_8 : decode cX9_trialRefused 8 = .ok (.sipush (-1001), 3) := by decide +kernel
theorem dX9_trialRefused_11 : decode cX9_trialRefused 11 = .ok (.goto 19, 3) := by decide +kernel
theorem dX9_trialRefused_14 : decode cX9_trialRefused 14 = .ok (.iload_n 2, 1) := by decide +kernel
theorem dX9_trialRefused_15 : decode cX9_trialRefused 15 = .ok (.iconst 1, 1) := by decide +kernel
theorem dX9_trialRefused_16 : decode cX9_trialRefused 16 = .ok (.iload_n 3, 1) := by decide +kernel
theorem dX9_trialRefused_17 : decode cX9_trialRefused 17 = .ok (.invokestatic 35, 3) := by decide +kernel
theorem dX9_trialRefused_20 : decode cX9_trialRefused 20 = .ok (.ifCond .ne 9, 3) := by decide +kernel
theorem dX9_trialRefused_23 : decode cX9_trialRefused 23 = .ok (.sipush (-1002), 3) := by decide +kernel
theorem dX9_trialRefused_26 : decode cX9_trialRefused 26 = .ok (.goto 4, 3) := by decide +kernel
theorem dX9_trialRefused_29 : decode cX9_trialRefused 29 = .ok (.iconst 0, 1) := by decide +kernel
theorem dX9_trialRefused_30 : decode cX9_trialRefused 30 = .ok (.ireturn, 1) := by decide +kernel
theorem dX9_deliveredIn_0 : decode cX9_deliveredIn 0 = .ok (.aload_n 0, 1) := by decide +kernel
theorem dX9_deliveredIn_1 : decode cX9_deliveredIn 1 = .ok (.iload_n 1, 1) := by decide +kernel
theorem dX9_deliveredIn_2 : decode cX9_deliveredIn 2 = .ok (.iload_n 2, 1) := by decide +kernel
theorem dX9_deliveredIn_3 : decode cX9_deliveredIn 3 = .ok (.sipush 500, 3) := by decide +kernel
theorem dX9_deliveredIn_6 : decode cX9_deliveredIn 6 = .ok (.invokevirtual 204, 3) := by decide +kernel
theorem dX9_deliveredIn_9 : decode cX9_deliveredIn 9 = .ok (.istore_n 3, 1) := by decide +kernel
theorem dX9_deliveredIn_10 : decode cX9_deliveredIn 10 = .ok (.iload_n 3, 1) := by decide +kernel
theorem dX9_deliveredIn_11 : decode cX9_deliveredIn 11 = .ok (.ifCond .eq 5, 3) := by decide +kernel
theorem dX9_deliveredIn_14 : decode cX9_deliveredIn 14 = .ok (.iload_n 3, 1) := by decide +kernel
theorem dX9_deliveredIn_15 : decode cX9_deliveredIn 15 = .ok (.ireturn, 1) := by decide +kernel
theorem dX9_deliveredIn_16 : decode cX9_deliveredIn 16 = .ok (.aload_n 0, 1) := by decide +kernel
theorem dX9_deliveredIn_17 : decode cX9_deliveredIn 17 = .ok (.iload_n 1, 1) := by decide +kernel
theorem dX9_deliveredIn_18 : decode cX9_deliveredIn 18 = .ok (.iconst 0, 1) := by decide +kernel
theorem dX9_deliveredIn_19 : decode cX9_deliveredIn 19 = .ok (.invokevirtual 200, 3) := by decide +kernel
theorem dX9_deliveredIn_22 : decode cX9_deliveredIn 22 = .ok (.aload_n 0, 1) := by decide +kernel
theorem dX9_deliveredIn_23 : decode cX9_deliveredIn 23 = .ok (.iload_n 2, 1) := by decide +kernel
theorem dX9_deliveredIn_24 : decode cX9_deliveredIn 24 = .ok (.invokevirtual 207, 3) := by decide +kernel
theorem dX9_deliveredIn_27 : decode cX9_deliveredIn 27 = .ok (.aload_n 0, 1) := by decide +kernel
theorem dX9_deliveredIn_28 : decode cX9_deliveredIn 28 = .ok (.getfield 78, 3) := by decide +kernel
theorem dX9_deliveredIn_31 : decode cX9_deliveredIn 31 = .ok (.ireturn, 1) := by decide +kernel
theorem dX9_drawnIn_0 : decode cX9_drawnIn 0 = .ok (.aload_n 0, 1) := by decide +kernel
theorem dX9_drawnIn_1 : decode cX9_drawnIn 1 = .ok (.iload_n 1, 1) := by decide +kernel
theorem dX9_drawnIn_2 : decode cX9_drawnIn 2 = .ok (.iload_n 2, 1) := by decide +kernel
theorem dX9_drawnIn_3 : decode cX9_drawnIn 3 = .ok (.sipush 500, 3) := by decide +kernel
theorem dX9_drawnIn_6 : decode cX9_drawnIn 6 = .ok (.invokevirtual 204, 3) := by decide +kernel
theorem dX9_drawnIn_9 : decode cX9_drawnIn 9 = .ok (.istore_n 3, 1) := by decide +kernel
theorem dX9_drawnIn_10 : decode cX9_drawnIn 10 = .ok (.iload_n 3, 1) := by decide +kernel
theorem dX9_drawnIn_11 : decode cX9_drawnIn 11 = .ok (.ifCond .eq 5, 3) := by decide +kernel
theorem dX9_drawnIn_14 : decode cX9_drawnIn 14 = .ok (.iload_n 3, 1) := by decide +kernel
theorem dX9_drawnIn_15 : decode cX9_drawnIn 15 = .ok (.ireturn, 1) := by decide +kernel
theorem dX9_drawnIn_16 : decode cX9_drawnIn 16 = .ok (.aload_n 0, 1) := by decide +kernel
theorem dX9_drawnIn_17 : decode cX9_drawnIn 17 = .ok (.iload_n 1, 1) := by decide +kernel
theorem dX9_drawnIn_18 : decode cX9_drawnIn 18 = .ok (.iconst 0, 1) := by decide +kernel
theorem dX9_drawnIn_19 : decode cX9_drawnIn 19 = .ok (.invokevirtual 200, 3) := by decide +kernel
theorem dX9_drawnIn_22 : decode cX9_drawnIn 22 = .ok (.aload_n 0, 1) := by decide +kernel
theorem dX9_drawnIn_23 : decode cX9_drawnIn 23 = .ok (.iload_n 2, 1) := by decide +kernel
theorem dX9_drawnIn_24 : decode cX9_drawnIn 24 = .ok (.invokevirtual 207, 3) := by decide +kernel
theorem dX9_drawnIn_27 : decode cX9_drawnIn 27 = .ok (.aload_n 0, 1) := by decide +kernel
theorem dX9_drawnIn_28 : decode cX9_drawnIn 28 = .ok (.getfield 81, 3) := by decide +kernel
theorem dX9_drawnIn_31 : decode cX9_drawnIn 31 = .ok (.ireturn, 1) := by decide +kernel
theorem dX9_period_0 : decode cX9_period 0 = .ok (.aload_n 0, 1) := by decide +kernel
theorem dX9_period_1 : decode cX9_period 1 = .ok (.iload_n 1, 1) := by decide +kernel
theorem dX9_period_2 : decode cX9_period 2 = .ok (.invokevirtual 106, 3) := by decide +kernel
theorem dX9_period_5 : decode cX9_period 5 = .ok (.ifCond .ne 7, 3) := by decide +kernel
theorem dX9_period_8 : decode cX9_period 8 = .ok (.sipush (-1001), 3) := by decide +kernel
theorem dX9_period_11 : decode cX9_period 11 = .ok (.ireturn, 1) := by decide +kernel
theorem dX9_period_12 : decode cX9_period 12 = .ok (.aload_n 0, 1) := by decide +kernel
theorem dX9_period_13 : decode cX9_period 13 = .ok (.iload_n 1, 1) := by decide +kernel
theorem dX9_period_14 : decode cX9_period 14 = .ok (.iconst 0, 1) := by decide +kernel
theorem dX9_period_15 : decode cX9_period 15 = .ok (.invokevirtual 200, 3) := by decide +kernel
theorem dX9_period_18 : decode cX9_period 18 = .ok (.iconst 0, 1) := by decide +kernel
theorem dX9_period_19 : decode cX9_period 19 = .ok (.istore_n 2, 1) := by decide +kernel
theorem dX9_period_20 : decode cX9_period 20 = .ok (.iconst 1, 1) := by decide +kernel
theorem dX9_period_21 : decode cX9_period 21 = .ok (.istore_n 3, 1) := by decide +kernel
theorem dX9_period_22 : decode cX9_period 22 = .ok (.iload_n 3, 1) := by decide +kernel
theorem dX9_period_23 : decode cX9_period 23 = .ok (.sipush 2000, 3) := by decide +kernel
theorem dX9_period_26 : decode cX9_period 26 = .ok (.if_icmp .gt 184, 3) := by decide +kernel
theorem dX9_period_29 : decode cX9_period 29 = .ok (.aload_n 0, 1) := by decide +kernel
theorem dX9_period_30 : decode cX9_period 30 = .ok (.iconst 0, 1) := by decide +kernel
theorem dX9_period_31 : decode cX9_period 31 = .ok (.putfield 49, 3) := by decide +kernel
theorem dX9_period_34 : decode cX9_period 34 = .ok (.aload_n 0, 1) := by decide +kernel
theorem dX9_period_35 : decode cX9_period 35 = .ok (.sipush 297, 3) := by decide +kernel
theorem dX9_period_38 : decode cX9_period 38 = .ok (.sipush (-1005), 3) := by decide +kernel
theorem dX9_period_41 : decode cX9_period 41 = .ok (.invokevirtual 100, 3) := by decide +kernel
theorem dX9_period_44 : decode cX9_period 44 = .ok (.aload_n 0, 1) := by decide +kernel
theorem dX9_period_45 : decode cX9_period 45 = .ok (.getfield 49, 3) := by decide +kernel
theorem dX9_period_48 : decode cX9_period 48 = .ok (.ifCond .eq 156, 3) := by decide +kernel
theorem dX9_period_51 : decode cX9_period 51 = .ok (.iconst 0, 1) := by decide +kernel
theorem dX9_period_52 : decode cX9_period 52 = .ok (.istore 4, 2) := by decide +kernel
theorem dX9_period_54 : decode cX9_period 54 = .ok (.iload 4, 2) := by decide +kernel
theorem dX9_period_56 : decode cX9_period 56 = .ok (.iconst 4, 1) := by decide +kernel
theorem dX9_period_57 : decode cX9_period 57 = .ok (.iload_n 2, 1) := by decide +kernel
theorem dX9_period_58 : decode cX9_period 58 = .ok (.imul, 1) := by decide +kernel
theorem dX9_period_59 : decode cX9_period 59 = .ok (.if_icmp .ge 79, 3) := by decide +kernel
theorem dX9_period_62 : decode cX9_period 62 = .ok (.aload_n 0, 1) := by decide +kernel
theorem dX9_period_63 : decode cX9_period 63 = .ok (.getfield 32, 3) := by decide +kernel
theorem dX9_period_66 : decode cX9_period 66 = .ok (.iload 4, 2) := by decide +kernel
theorem dX9_period_68 : decode cX9_period 68 = .ok (.iconst 1, 1) := by decide +kernel
theorem dX9_period_69 : decode cX9_period 69 = .ok (.iadd, 1) := by decide +kernel
theorem dX9_period_70 : decode cX9_period 70 = .ok (.iaload, 1) := by decide +kernel
theorem dX9_period_71 : decode cX9_period 71 = .ok (.aload_n 0, 1) := by decide +kernel
theorem dX9_period_72 : decode cX9_period 72 = .ok (.getfield 7, 3) := by decide +kernel
theorem dX9_period_75 : decode cX9_period 75 = .ok (.sipush 303, 3) := by decide +kernel
theorem dX9_period_78 : decode cX9_period 78 = .ok (.iaload, 1) := by decide +kernel
theorem dX9_period_79 : decode cX9_period 79 = .ok (.if_icmp .ne 53, 3) := by decide +kernel
theorem dX9_period_82 : decode cX9_period 82 = .ok (.aload_n 0, 1) := by decide +kernel
theorem dX9_period_83 : decode cX9_period 83 = .ok (.getfield 32, 3) := by decide +kernel
theorem dX9_period_86 : decode cX9_period 86 = .ok (.iload 4, 2) := by decide +kernel
theorem dX9_period_88 : decode cX9_period 88 = .ok (.iconst 2, 1) := by decide +kernel
theorem dX9_period_89 : decode cX9_period 89 = .ok (.iadd, 1) := by decide +kernel
theorem dX9_period_90 : decode cX9_period 90 = .ok (.iaload, 1) := by decide +kernel
theorem dX9_period_91 : decode cX9_period 91 = .ok (.aload_n 0, 1) := by decide +kernel
theorem dX9_period_92 : decode cX9_period 92 = .ok (.getfield 7, 3) := by decide +kernel
theorem dX9_period_95 : decode cX9_period 95 = .ok (.sipush 310, 3) := by decide +kernel
theorem dX9_period_98 : decode cX9_period 98 = .ok (.iaload, 1) := by decide +kernel
theorem dX9_period_99 : decode cX9_period 99 = .ok (.if_icmp .ne 33, 3) := by decide +kernel
theorem dX9_period_102 : decode cX9_period 102 = .ok (.aload_n 0, 1) := by decide +kernel
theorem dX9_period_103 : decode cX9_period 103 = .ok (.getfield 32, 3) := by decide +kernel
theorem dX9_period_106 : decode cX9_period 106 = .ok (.iload 4, 2) := by decide +kernel
theorem dX9_period_108 : decode cX9_period 108 = .ok (.iconst 3, 1) := by decide +kernel
theorem dX9_period_109 : decode cX9_period 109 = .ok (.iadd, 1) := by decide +kernel
theorem dX9_period_110 : decode cX9_period 110 = .ok (.iaload, 1) := by decide +kernel
theorem dX9_period_111 : decode cX9_period 111 = .ok (.aload_n 0, 1) := by decide +kernel
theorem dX9_period_112 : decode cX9_period 112 = .ok (.getfield 7, 3) := by decide +kernel
theorem dX9_period_115 : decode cX9_period 115 = .ok (.sipush 311, 3) := by decide +kernel
theorem dX9_period_118 : decode cX9_period 118 = .ok (.iaload, 1) := by decide +kernel
theorem dX9_period_119 : decode cX9_period 119 = .ok (.if_icmp .ne 13, 3) := by decide +kernel
theorem dX9_period_122 : decode cX9_period 122 = .ok (.iload_n 3, 1) := by decide +kernel
theorem dX9_period_123 : decode cX9_period 123 = .ok (.aload_n 0, 1) := by decide +kernel
theorem dX9_period_124 : decode cX9_period 124 = .ok (.getfield 32, 3) := by decide +kernel
theorem dX9_period_127 : decode cX9_period 127 = .ok (.iload 4, 2) := by decide +kernel
theorem dX9_period_129 : decode cX9_period 129 = .ok (.iaload, 1) := by decide +kernel
theorem dX9_period_130 : decode cX9_period 130 = .ok (.isub, 1) := by decide +kernel
theorem dX9_period_131 : decode cX9_period 131 = .ok (.ireturn, 1) := by decide +kernel
theorem dX9_period_132 : decode cX9_period 132 = .ok (.iinc 4 4, 3) := by decide +kernel
theorem dX9_period_135 : decode cX9_period 135 = .ok (.goto (-81), 3) := by decide +kernel
theorem dX9_period_138 : decode cX9_period 138 = .ok (.aload_n 0, 1) := by decide +kernel
theorem dX9_period_139 : decode cX9_period 139 = .ok (.getfield 32, 3) := by decide +kernel
theorem dX9_period_142 : decode cX9_period 142 = .ok (.iconst 4, 1) := by decide +kernel
theorem dX9_period_143 : decode cX9_period 143 = .ok (.iload_n 2, 1) := by decide +kernel
theorem dX9_period_144 : decode cX9_period 144 = .ok (.imul, 1) := by decide +kernel
theorem dX9_period_145 : decode cX9_period 145 = .ok (.iload_n 3, 1) := by decide +kernel
theorem dX9_period_146 : decode cX9_period 146 = .ok (.iastore, 1) := by decide +kernel
theorem dX9_period_147 : decode cX9_period 147 = .ok (.aload_n 0, 1) := by decide +kernel
theorem dX9_period_148 : decode cX9_period 148 = .ok (.getfield 32, 3) := by decide +kernel
theorem dX9_period_151 : decode cX9_period 151 = .ok (.iconst 4, 1) := by decide +kernel
theorem dX9_period_152 : decode cX9_period 152 = .ok (.iload_n 2, 1) := by decide +kernel
theorem dX9_period_153 : decode cX9_period 153 = .ok (.imul, 1) := by decide +kernel
theorem dX9_period_154 : decode cX9_period 154 = .ok (.iconst 1, 1) := by decide +kernel
theorem dX9_period_155 : decode cX9_period 155 = .ok (.iadd, 1) := by decide +kernel
theorem dX9_period_156 : decode cX9_period 156 = .ok (.aload_n 0, 1) := by decide +kernel
theorem dX9_period_157 : decode cX9_period 157 = .ok (.getfield 7, 3) := by decide +kernel
theorem dX9_period_160 : decode cX9_period 160 = .ok (.sipush 303, 3) := by decide +kernel
theorem dX9_period_163 : decode cX9_period 163 = .ok (.iaload, 1) := by decide +kernel
theorem dX9_period_164 : decode cX9_period 164 = .ok (.iastore, 1) := by decide +kernel
theorem dX9_period_165 : decode cX9_period 165 = .ok (.aload_n 0, 1) := by decide +kernel
theorem dX9_period_166 : decode cX9_period 166 = .ok (.getfield 32, 3) := by decide +kernel
theorem dX9_period_169 : decode cX9_period 169 = .ok (.iconst 4, 1) := by decide +kernel
theorem dX9_period_170 : decode cX9_period 170 = .ok (.iload_n 2, 1) := by decide +kernel
theorem dX9_period_171 : decode cX9_period 171 = .ok (.imul, 1) := by decide +kernel
theorem dX9_period_172 : decode cX9_period 172 = .ok (.iconst 2, 1) := by decide +kernel
theorem dX9_period_173 : decode cX9_period 173 = .ok (.iadd, 1) := by decide +kernel
theorem dX9_period_174 : decode cX9_period 174 = .ok (.aload_n 0, 1) := by decide +kernel
theorem dX9_period_175 : decode cX9_period 175 = .ok (.getfield 7, 3) := by decide +kernel
theorem dX9_period_178 : decode cX9_period 178 = .ok (.sipush 310, 3) := by decide +kernel
theorem dX9_period_181 : decode cX9_period 181 = .ok (.iaload, 1) := by decide +kernel
theorem dX9_period_182 : decode cX9_period 182 = .ok (.iastore, 1) := by decide +kernel
theorem dX9_period_183 : decode cX9_period 183 = .ok (.aload_n 0, 1) := by decide +kernel
theorem dX9_period_184 : decode cX9_period 184 = .ok (.getfield 32, 3) := by decide +kernel
theorem dX9_period_187 : decode cX9_period 187 = .ok (.iconst 4, 1) := by decide +kernel
theorem dX9_period_188 : decode cX9_period 188 = .ok (.iload_n 2, 1) := by decide +kernel
theorem dX9_period_189 : decode cX9_period 189 = .ok (.imul, 1) := by decide +kernel
theorem dX9_period_190 : decode cX9_period 190 = .ok (.iconst 3, 1) := by decide +kernel
theorem dX9_period_191 : decode cX9_period 191 = .ok (.iadd, 1) := by decide +kernel
theorem dX9_period_192 : decode cX9_period 192 = .ok (.aload_n 0, 1) := by decide +kernel
theorem dX9_period_193 : decode cX9_period 193 = .ok (.getfield 7, 3) := by decide +kernel
theorem dX9_period_196 : decode cX9_period 196 = .ok (.sipush 311, 3) := by decide +kernel
theorem dX9_period_199 : decode cX9_period 199 = .ok (.iaload, 1) := by decide +kernel
theorem dX9_period_200 : decode cX9_period 200 = .ok (.iastore, 1) := by decide +kernel
theorem dX9_period_201 : decode cX9_period 201 = .ok (.iinc 2 1, 3) := by decide +kernel
theorem dX9_period_204 : decode cX9_period 204 = .ok (.iinc 3 1, 3) := by decide +kernel
theorem dX9_period_207 : decode cX9_period 207 = .ok (.goto (-185), 3) := by decide +kernel
theorem dX9_period_210 : decode cX9_period 210 = .ok (.sipush (-1005), 3) := by decide +kernel
theorem dX9_period_213 : decode cX9_period 213 = .ok (.ireturn, 1) := by decide +kernel
theorem dX9_best_0 : decode cX9_best 0 = .ok (.iconst 0, 1) := by decide +kernel
theorem dX9_best_1 : decode cX9_best 1 = .ok (.istore 5, 2) := by decide +kernel
theorem dX9_best_3 : decode cX9_best 3 = .ok (.sipush (-1005), 3) := by decide +kernel
theorem dX9_best_6 : decode cX9_best 6 = .ok (.istore 6, 2) := by decide +kernel
theorem dX9_best_8 : decode cX9_best 8 = .ok (.bipush 10, 2) := by decide +kernel
theorem dX9_best_10 : decode cX9_best 10 = .ok (.istore 7, 2) := by decide +kernel
theorem dX9_best_12 : decode cX9_best 12 = .ok (.iload 7, 2) := by decide +kernel
theorem dX9_best_14 : decode cX9_best 14 = .ok (.iload 4, 2) := by decide +kernel
theorem dX9_best_16 : decode cX9_best 16 = .ok (.if_icmp .gt 70, 3) := by decide +kernel
theorem dX9_best_19 : decode cX9_best 19 = .ok (.aload_n 0, 1) := by decide +kernel
theorem dX9_best_20 : decode cX9_best 20 = .ok (.iload_n 1, 1) := by decide +kernel
theorem dX9_best_21 : decode cX9_best 21 = .ok (.iconst 1, 1) := by decide +kernel
theorem dX9_best_22 : decode cX9_best 22 = .ok (.invokevirtual 200, 3) := by decide +kernel
theorem dX9_best_25 : decode cX9_best 25 = .ok (.aload_n 0, 1) := by decide +kernel
theorem dX9_best_26 : decode cX9_best 26 = .ok (.getfield 7, 3) := by decide +kernel
theorem dX9_best_29 : decode cX9_best 29 = .ok (.sipush 297, 3) := by decide +kernel
theorem dX9_best_32 : decode cX9_best 32 = .ok (.iload_n 3, 1) := by decide +kernel
theorem dX9_best_33 : decode cX9_best 33 = .ok (.iadd, 1) := by decide +kernel
theorem dX9_best_34 : decode cX9_best 34 = .ok (.iload 7, 2) := by decide +kernel
theorem dX9_best_36 : decode cX9_best 36 = .ok (.iastore, 1) := by decide +kernel
theorem dX9_best_37 : decode cX9_best 37 = .ok (.aload_n 0, 1) := by decide +kernel
theorem dX9_best_38 : decode cX9_best 38 = .ok (.iload_n 2, 1) := by decide +kernel
theorem dX9_best_39 : decode cX9_best 39 = .ok (.invokevirtual 207, 3) := by decide +kernel
theorem dX9_best_42 : decode cX9_best 42 = .ok (.aload_n 0, 1) := by decide +kernel
theorem dX9_best_43 : decode cX9_best 43 = .ok (.getfield 78, 3) := by decide +kernel
theorem dX9_best_46 : decode cX9_best 46 = .ok (.iload 6, 2) := by decide +kernel
theorem dX9_best_48 : decode cX9_best 48 = .ok (.if_icmp .le 8, 3) := by decide +kernel
theorem dX9_best_51 : decode cX9_best 51 = .ok (.iload 7, 2) := by decide +kernel
theorem dX9_best_53 : decode cX9_best 53 = .ok (.goto 5, 3) := by decide +kernel
theorem dX9_best_56 : decode cX9_best 56 = .ok (.iload 5, 2) := by decide +kernel
theorem dX9_best_58 : decode cX9_best 58 = .ok (.istore 5, 2) := by decide +kernel
theorem dX9_best_60 : decode cX9_best 60 = .ok (.aload_n 0, 1) := by decide +kernel
theorem dX9_best_61 : decode cX9_best 61 = .ok (.getfield 78, 3) := by decide +kernel
theorem dX9_best_64 : decode cX9_best 64 = .ok (.iload 6, 2) := by decide +kernel
theorem dX9_best_66 : decode cX9_best 66 = .ok (.if_icmp .le 10, 3) := by decide +kernel
theorem dX9_best_69 : decode cX9_best 69 = .ok (.aload_n 0, 1) := by decide +kernel
theorem dX9_best_70 : decode cX9_best 70 = .ok (.getfield 78, 3) := by decide +kernel
theorem dX9_best_73 : decode cX9_best 73 = .ok (.goto 5, 3) := by decide +kernel
theorem dX9_best_76 : decode cX9_best 76 = .ok (.iload 6, 2) := by decide +kernel
theorem dX9_best_78 : decode cX9_best 78 = .ok (.istore 6, 2) := by decide +kernel
theorem dX9_best_80 : decode cX9_best 80 = .ok (.iinc 7 10, 3) := by decide +kernel
theorem dX9_best_83 : decode cX9_best 83 = .ok (.goto (-71), 3) := by decide +kernel
theorem dX9_best_86 : decode cX9_best 86 = .ok (.iload 5, 2) := by decide +kernel
theorem dX9_best_88 : decode cX9_best 88 = .ok (.ireturn, 1) := by decide +kernel
theorem dX9_bestLength_0 : decode cX9_bestLength 0 = .ok (.aload_n 0, 1) := by decide +kernel
theorem dX9_bestLength_1 : decode cX9_bestLength 1 = .ok (.iload_n 1, 1) := by decide +kernel
theorem dX9_bestLength_2 : decode cX9_bestLength 2 = .ok (.iload_n 2, 1) := by decide +kernel
theorem dX9_bestLength_3 : decode cX9_bestLength 3 = .ok (.sipush 300, 3) := by decide +kernel
theorem dX9_bestLength_6 : decode cX9_bestLength 6 = .ok (.invokevirtual 204, 3) := by decide +kernel
theorem dX9_bestLength_9 : decode cX9_bestLength 9 = .ok (.istore_n 3, 1) := by decide +kernel
theorem dX9_bestLength_10 : decode cX9_bestLength 10 = .ok (.iload_n 3, 1) := by decide +kernel
theorem dX9_bestLength_11 : decode cX9_bestLength 11 = .ok (.ifCond .eq 7, 3) := by decide +kernel
theorem dX9_bestLength_14 : decode cX9_bestLength 14 = .ok (.iload_n 3, 1) := by decide +kernel
theorem dX9_bestLength_15 : decode cX9_bestLength 15 = .ok (.goto 13, 3) := by decide +kernel
theorem dX9_bestLength_18 : decode cX9_bestLength 18 = .ok (.aload_n 0, 1) := by decide +kernel
theorem dX9_bestLength_19 : decode cX9_bestLength 19 = .ok (.iload_n 1, 1) := by decide +kernel
theorem dX9_bestLength_20 : decode cX9_bestLength 20 = .ok (.iload_n 2, 1) := by decide +kernel
theorem dX9_bestLength_21 : decode cX9_bestLength 21 = .ok (.iconst 1, 1) := by decide +kernel
theorem dX9_bestLength_22 : decode cX9_bestLength 22 = .ok (.sipush 400, 3) := by decide +kernel
theorem dX9_bestLength_25 : decode cX9_bestLength 25 = .ok (.invokevirtual 210, 3) := by decide +kernel
theorem dX9_bestLength_28 : decode cX9_bestLength 28 = .ok (.ireturn, 1) := by decide +kernel
theorem dX9_bestSetting_0 : decode cX9_bestSetting 0 = .ok (.aload_n 0, 1) := by decide +kernel
theorem dX9_bestSetting_1 : decode cX9_bestSetting 1 = .ok (.iload_n 1, 1) := by decide +kernel
theorem dX9_bestSetting_2 : decode cX9_bestSetting 2 = .ok (.iload_n 2, 1) := by decide +kernel
theorem dX9_bestSetting_3 : decode cX9_bestSetting 3 = .ok (.sipush 300, 3) := by decide +kernel
theorem dX9_bestSetting_6 : decode cX9_bestSetting 6 = .ok (.invokevirtual 204, 3) := by decide +kernel
theorem dX9_bestSetting_9 : decode cX9_bestSetting 9 = .ok (.istore_n 3, 1) := by decide +kernel
theorem dX9_bestSetting_10 : decode cX9_bestSetting 10 = .ok (.iload_n 3, 1) := by decide +kernel
theorem dX9_bestSetting_11 : decode cX9_bestSetting 11 = .ok (.ifCond .eq 7, 3) := by decide +kernel
theorem dX9_bestSetting_14 : decode cX9_bestSetting 14 = .ok (.iload_n 3, 1) := by decide +kernel
theorem dX9_bestSetting_15 : decode cX9_bestSetting 15 = .ok (.goto 14, 3) := by decide +kernel
theorem dX9_bestSetting_18 : decode cX9_bestSetting 18 = .ok (.aload_n 0, 1) := by decide +kernel
theorem dX9_bestSetting_19 : decode cX9_bestSetting 19 = .ok (.iload_n 1, 1) := by decide +kernel
theorem dX9_bestSetting_20 : decode cX9_bestSetting 20 = .ok (.iload_n 2, 1) := by decide +kernel
theorem dX9_bestSetting_21 : decode cX9_bestSetting 21 = .ok (.bipush 10, 2) := by decide +kernel
theorem dX9_bestSetting_23 : decode cX9_bestSetting 23 = .ok (.sipush 500, 3) := by decide +kernel
theorem dX9_bestSetting_26 : decode cX9_bestSetting 26 = .ok (.invokevirtual 210, 3) := by decide +kernel
theorem dX9_bestSetting_29 : decode cX9_bestSetting 29 = .ok (.ireturn, 1) := by decide +kernel
end
section
theorem dL_0 : decode code 0 = .ok (.new 7, 3) := by decide +kernel
theorem dL_3 : decode code 3 = .ok (.dup, 1) := by decide +kernel
theorem dL_4 : decode code 4 = .ok (.invokespecial 9, 3) := by decide +kernel
theorem dL_7 : decode code 7 = .ok (.astore_n 1, 1) := by decide +kernel
theorem dL_8 : decode code 8 = .ok (.new 10, 3) := by decide +kernel
theorem dL_11 : decode code 11 = .ok (.dup, 1) := by decide +kernel
theorem dL_12 : decode code 12 = .ok (.invokespecial 12, 3) := by decide +kernel
theorem dL_15 : decode code 15 = .ok (.astore_n 2, 1) := by decide +kernel
theorem dL_16 : decode code 16 = .ok (.iconst 0, 1) := by decide +kernel
theorem dL_17 : decode code 17 = .ok (.istore_n 3, 1) := by decide +kernel
theorem dL_18 : decode code 18 = .ok (.iload_n 3, 1) := by decide +kernel
theorem dL_19 : decode code 19 = .ok (.aload_n 0, 1) := by decide +kernel
theorem dL_20 : decode code 20 = .ok (.arraylength, 1) := by decide +kernel
theorem dL_21 : decode code 21 = .ok (.bipush 6, 2) := by decide +kernel
theorem dL_23 : decode code 23 = .ok (.isub, 1) := by decide +kernel
theorem dL_24 : decode code 24 = .ok (.if_icmp .gt 1291, 3) := by decide +kernel
theorem dL_27 : decode code 27 = .ok (.aload_n 0, 1) := by decide +kernel
theorem dL_28 : decode code 28 = .ok (.iload_n 3, 1) := by decide +kernel
theorem dL_29 : decode code 29 = .ok (.iaload, 1) := by decide +kernel
theorem dL_30 : decode code 30 = .ok (.bipush 63, 2) := by decide +kernel
theorem dL_32 : decode code 32 = .ok (.iand, 1) := by decide +kernel
theorem dL_33 : decode code 33 = .ok (.tableswitch 1276 0 44 #[195, 258, 301, 360, 383, 406, 429, 452, 475, 488, 511, 524, 537, 550, 563, 576, 589, 602, 615, 628, 651, 674, 697, 720, 743, 766, 789, 812, 835, 858, 881, 904, 927, 950, 973, 996, 1029, 1062, 1085, 1098, 1121, 1154, 1187, 1210, 1243], 195) := by decide +kernel
theorem dL_228 : decode code 228 = .ok (.aload_n 1, 1) := by decide +kernel
theorem dL_229 : decode code 229 = .ok (.aload_n 0, 1) := by decide +kernel
theorem dL_230 : decode code 230 = .ok (.iload_n 3, 1) := by decide +kernel
theorem dL_231 : decode code 231 = .ok (.iconst 1, 1) := by decide +kernel
theorem dL_232 : decode code 232 = .ok (.iadd, 1) := by decide +kernel
theorem dL_233 : decode code 233 = .ok (.iaload, 1) := by decide +kernel
theorem dL_234 : decode code 234 = .ok (.aload_n 0, 1) := by decide +kernel
theorem dL_235 : decode code 235 = .ok (.iload_n 3, 1) := by decide +kernel
theorem dL_236 : decode code 236 = .ok (.iconst 2, 1) := by decide +kernel
theorem dL_237 : decode code 237 = .ok (.iadd, 1) := by decide +kernel
theorem dL_238 : decode code 238 = .ok (.iaload, 1) := by decide +kernel
theorem dL_239 : decode code 239 = .ok (.aload_n 0, 1) := by decide +kernel
theorem dL_240 : decode code 240 = .ok (.iload_n 3, 1) := by decide +kernel
theorem dL_241 : decode code 241 = .ok (.iconst 3, 1) := by decide +kernel
theorem dL_242 : decode code 242 = .ok (.iadd, 1) := by decide +kernel
theorem dL_243 : decode code 243 = .ok (.iaload, 1) := by decide +kernel
theorem dL_244 : decode code 244 = .ok (.aload_n 0, 1) := by decide +kernel
theorem dL_245 : decode code 245 = .ok (.iload_n 3, 1) := by decide +kernel
theorem dL_246 : decode code 246 = .ok (.iconst 4, 1) := by decide +kernel
theorem dL_247 : decode code 247 = .ok (.iadd, 1) := by decide +kernel
theorem dL_248 : decode code 248 = .ok (.iaload, 1) := by decide +kernel
theorem dL_249 : decode code 249 = .ok (.aload_n 0, 1) := by decide +kernel
theorem dL_250 : decode code 250 = .ok (.iload_n 3, 1) := by decide +kernel
theorem dL_251 : decode code 251 = .ok (.iconst 5, 1) := by decide +kernel
theorem dL_252 : decode code 252 = .ok (.iadd, 1) := by decide +kernel
theorem dL_253 : decode code 253 = .ok (.iaload, 1) := by decide +kernel
theorem dL_254 : decode code 254 = .ok (.invokevirtual 13, 3) := by decide +kernel
theorem dL_257 : decode code 257 = .ok (.aload_n 2, 1) := by decide +kernel
theorem dL_258 : decode code 258 = .ok (.aload_n 0, 1) := by decide +kernel
theorem dL_259 : decode code 259 = .ok (.iload_n 3, 1) := by decide +kernel
theorem dL_260 : decode code 260 = .ok (.iconst 1, 1) := by decide +kernel
theorem dL_261 : decode code 261 = .ok (.iadd, 1) := by decide +kernel
theorem dL_262 : decode code 262 = .ok (.iaload, 1) := by decide +kernel
theorem dL_263 : decode code 263 = .ok (.aload_n 0, 1) := by decide +kernel
theorem dL_264 : decode code 264 = .ok (.iload_n 3, 1) := by decide +kernel
theorem dL_265 : decode code 265 = .ok (.iconst 2, 1) := by decide +kernel
theorem dL_266 : decode code 266 = .ok (.iadd, 1) := by decide +kernel
theorem dL_267 : decode code 267 = .ok (.iaload, 1) := by decide +kernel
theorem dL_268 : decode code 268 = .ok (.aload_n 0, 1) := by decide +kernel
theorem dL_269 : decode code 269 = .ok (.iload_n 3, 1) := by decide +kernel
theorem dL_270 : decode code 270 = .ok (.iconst 3, 1) := by decide +kernel
theorem dL_271 : decode code 271 = .ok (.iadd, 1) := by decide +kernel
theorem dL_272 : decode code 272 = .ok (.iaload, 1) := by decide +kernel
theorem dL_273 : decode code 273 = .ok (.aload_n 0, 1) := by decide +kernel
theorem dL_274 : decode code 274 = .ok (.iload_n 3, 1) := by decide +kernel
theorem dL_275 : decode code 275 = .ok (.iconst 4, 1) := by decide +kernel
theorem dL_276 : decode code 276 = .ok (.iadd, 1) := by decide +kernel
theorem dL_277 : decode code 277 = .ok (.iaload, 1) := by decide +kernel
theorem dL_278 : decode code 278 = .ok (.aload_n 0, 1) := by decide +kernel
theorem dL_279 : decode code 279 = .ok (.iload_n 3, 1) := by decide +kernel
theorem dL_280 : decode code 280 = .ok (.iconst 5, 1) := by decide +kernel
theorem dL_281 : decode code 281 = .ok (.iadd, 1) := by decide +kernel
theorem dL_282 : decode code 282 = .ok (.iaload, 1) := by decide +kernel
theorem dL_283 : decode code 283 = .ok (.invokevirtual 17, 3) := by decide +kernel
theorem dL_286 : decode code 286 = .ok (.if_icmp .eq 1023, 3) := by decide +kernel
theorem dL_289 : decode code 289 = .ok (.iconst 0, 1) := by decide +kernel
theorem dL_290 : decode code 290 = .ok (.ireturn, 1) := by decide +kernel
theorem dL_291 : decode code 291 = .ok (.aload_n 1, 1) := by decide +kernel
theorem dL_292 : decode code 292 = .ok (.aload_n 0, 1) := by decide +kernel
theorem dL_293 : decode code 293 = .ok (.iload_n 3, 1) := by decide +kernel
theorem dL_294 : decode code 294 = .ok (.iconst 1, 1) := by decide +kernel
theorem dL_295 : decode code 295 = .ok (.iadd, 1) := by decide +kernel
theorem dL_296 : decode code 296 = .ok (.iaload, 1) := by decide +kernel
theorem dL_297 : decode code 297 = .ok (.aload_n 0, 1) := by decide +kernel
theorem dL_298 : decode code 298 = .ok (.iload_n 3, 1) := by decide +kernel
theorem dL_299 : decode code 299 = .ok (.iconst 2, 1) := by decide +kernel
theorem dL_300 : decode code 300 = .ok (.iadd, 1) := by decide +kernel
theorem dL_301 : decode code 301 = .ok (.iaload, 1) := by decide +kernel
theorem dL_302 : decode code 302 = .ok (.aload_n 0, 1) := by decide +kernel
theorem dL_303 : decode code 303 = .ok (.iload_n 3, 1) := by decide +kernel
theorem dL_304 : decode code 304 = .ok (.iconst 3, 1) := by decide +kernel
theorem dL_305 : decode code 305 = .ok (.iadd, 1) := by decide +kernel
theorem dL_306 : decode code 306 = .ok (.iaload, 1) := by decide +kernel
theorem dL_307 : decode code 307 = .ok (.invokevirtual 18, 3) := by decide +kernel
theorem dL_310 : decode code 310 = .ok (.aload_n 2, 1) := by decide +kernel
theorem dL_311 : decode code 311 = .ok (.aload_n 0, 1) := by decide +kernel
theorem dL_312 : decode code 312 = .ok (.iload_n 3, 1) := by decide +kernel
theorem dL_313 : decode code 313 = .ok (.iconst 1, 1) := by decide +kernel
theorem dL_314 : decode code 314 = .ok (.iadd, 1) := by decide +kernel
theorem dL_315 : decode code 315 = .ok (.iaload, 1) := by decide +kernel
theorem dL_316 : decode code 316 = .ok (.aload_n 0, 1) := by decide +kernel
theorem dL_317 : decode code 317 = .ok (.iload_n 3, 1) := by decide +kernel
theorem dL_318 : decode code 318 = .ok (.iconst 2, 1) := by decide +kernel
theorem dL_319 : decode code 319 = .ok (.iadd, 1) := by decide +kernel
theorem dL_320 : decode code 320 = .ok (.iaload, 1) := by decide +kernel
theorem dL_321 : decode code 321 = .ok (.aload_n 0, 1) := by decide +kernel
theorem dL_322 : decode code 322 = .ok (.iload_n 3, 1) := by decide +kernel
theorem dL_323 : decode code 323 = .ok (.iconst 3, 1) := by decide +kernel
theorem dL_324 : decode code 324 = .ok (.iadd, 1) := by decide +kernel
theorem dL_325 : decode code 325 = .ok (.iaload, 1) := by decide +kernel
theorem dL_326 : decode code 326 = .ok (.invokevirtual 22, 3) := by decide +kernel
theorem dL_329 : decode code 329 = .ok (.if_icmp .eq 980, 3) := by decide +kernel
theorem dL_332 : decode code 332 = .ok (.iconst 0, 1) := by decide +kernel
theorem dL_333 : decode code 333 = .ok (.ireturn, 1) := by decide +kernel
theorem dL_334 : decode code 334 = .ok (.aload_n 1, 1) := by decide +kernel
theorem dL_335 : decode code 335 = .ok (.aload_n 0, 1) := by decide +kernel
theorem dL_336 : decode code 336 = .ok (.iload_n 3, 1) := by decide +kernel
theorem dL_337 : decode code 337 = .ok (.iconst 1, 1) := by decide +kernel
theorem dL_338 : decode code 338 = .ok (.iadd, 1) := by decide +kernel
theorem dL_339 : decode code 339 = .ok (.iaload, 1) := by decide +kernel
theorem dL_340 : decode code 340 = .ok (.aload_n 0, 1) := by decide +kernel
theorem dL_341 : decode code 341 = .ok (.iload_n 3, 1) := by decide +kernel
theorem dL_342 : decode code 342 = .ok (.iconst 2, 1) := by decide +kernel
theorem dL_343 : decode code 343 = .ok (.iadd, 1) := by decide +kernel
theorem dL_344 : decode code 344 = .ok (.iaload, 1) := by decide +kernel
theorem dL_345 : decode code 345 = .ok (.aload_n 0, 1) := by decide +kernel
theorem dL_346 : decode code 346 = .ok (.iload_n 3, 1) := by decide +kernel
theorem dL_347 : decode code 347 = .ok (.iconst 3, 1) := by decide +kernel
theorem dL_348 : decode code 348 = .ok (.iadd, 1) := by decide +kernel
theorem dL_349 : decode code 349 = .ok (.iaload, 1) := by decide +kernel
theorem dL_350 : decode code 350 = .ok (.ifCond .eq 7, 3) := by decide +kernel
theorem dL_353 : decode code 353 = .ok (.iconst 1, 1) := by decide +kernel
theorem dL_354 : decode code 354 = .ok (.goto 4, 3) := by decide +kernel
theorem dL_357 : decode code 357 = .ok (.iconst 0, 1) := by decide +kernel
theorem dL_358 : decode code 358 = .ok (.invokevirtual 23, 3) := by decide +kernel
theorem dL_361 : decode code 361 = .ok (.aload_n 2, 1) := by decide +kernel
theorem dL_362 : decode code 362 = .ok (.aload_n 0, 1) := by decide +kernel
theorem dL_363 : decode code 363 = .ok (.iload_n 3, 1) := by decide +kernel
theorem dL_364 : decode code 364 = .ok (.iconst 1, 1) := by decide +kernel
theorem dL_365 : decode code 365 = .ok (.iadd, 1) := by decide +kernel
theorem dL_366 : decode code 366 = .ok (.iaload, 1) := by decide +kernel
theorem dL_367 : decode code 367 = .ok (.aload_n 0, 1) := by decide +kernel
theorem dL_368 : decode code 368 = .ok (.iload_n 3, 1) := by decide +kernel
theorem dL_369 : decode code 369 = .ok (.iconst 2, 1) := by decide +kernel
theorem dL_370 : decode code 370 = .ok (.iadd, 1) := by decide +kernel
theorem dL_371 : decode code 371 = .ok (.iaload, 1) := by decide +kernel
theorem dL_372 : decode code 372 = .ok (.aload_n 0, 1) := by decide +kernel
theorem dL_373 : decode code 373 = .ok (.iload_n 3, 1) := by decide +kernel
theorem dL_374 : decode code 374 = .ok (.iconst 3, 1) := by decide +kernel
theorem dL_375 : decode code 375 = .ok (.iadd, 1) := by decide +kernel
theorem dL_376 : decode code 376 = .ok (.iaload, 1) := by decide +kernel
theorem dL_377 : decode code 377 = .ok (.ifCond .eq 7, 3) := by decide +kernel
theorem dL_380 : decode code 380 = .ok (.iconst 1, 1) := by decide +kernel
theorem dL_381 : decode code 381 = .ok (.goto 4, 3) := by decide +kernel
theorem dL_384 : decode code 384 = .ok (.iconst 0, 1) := by decide +kernel
theorem dL_385 : decode code 385 = .ok (.invokevirtual 27, 3) := by decide +kernel
theorem dL_388 : decode code 388 = .ok (.if_icmp .eq 921, 3) := by decide +kernel
theorem dL_391 : decode code 391 = .ok (.iconst 0, 1) := by decide +kernel
theorem dL_392 : decode code 392 = .ok (.ireturn, 1) := by decide +kernel
theorem dL_393 : decode code 393 = .ok (.aload_n 1, 1) := by decide +kernel
theorem dL_394 : decode code 394 = .ok (.aload_n 0, 1) := by decide +kernel
theorem dL_395 : decode code 395 = .ok (.iload_n 3, 1) := by decide +kernel
theorem dL_396 : decode code 396 = .ok (.iconst 1, 1) := by decide +kernel
theorem dL_397 : decode code 397 = .ok (.iadd, 1) := by decide +kernel
theorem dL_398 : decode code 398 = .ok (.iaload, 1) := by decide +kernel
theorem dL_399 : decode code 399 = .ok (.invokevirtual 28, 3) := by decide +kernel
theorem dL_402 : decode code 402 = .ok (.aload_n 2, 1) := by decide +kernel
theorem dL_403 : decode code 403 = .ok (.aload_n 0, 1) := by decide +kernel
theorem dL_404 : decode code 404 = .ok (.iload_n 3, 1) := by decide +kernel
theorem dL_405 : decode code 405 = .ok (.iconst 1, 1) := by decide +kernel
theorem dL_406 : decode code 406 = .ok (.iadd, 1) := by decide +kernel
theorem dL_407 : decode code 407 = .ok (.iaload, 1) := by decide +kernel
theorem dL_408 : decode code 408 = .ok (.invokevirtual 32, 3) := by decide +kernel
theorem dL_411 : decode code 411 = .ok (.if_icmp .eq 898, 3) := by decide +kernel
theorem dL_414 : decode code 414 = .ok (.iconst 0, 1) := by decide +kernel
theorem dL_415 : decode code 415 = .ok (.ireturn, 1) := by decide +kernel
theorem dL_416 : decode code 416 = .ok (.aload_n 1, 1) := by decide +kernel
theorem dL_417 : decode code 417 = .ok (.aload_n 0, 1) := by decide +kernel
theorem dL_418 : decode code 418 = .ok (.iload_n 3, 1) := by decide +kernel
theorem dL_419 : decode code 419 = .ok (.iconst 1, 1) := by decide +kernel
theorem dL_420 : decode code 420 = .ok (.iadd, 1) := by decide +kernel
theorem dL_421 : decode code 421 = .ok (.iaload, 1) := by decide +kernel
theorem dL_422 : decode code 422 = .ok (.invokevirtual 33, 3) := by decide +kernel
theorem dL_425 : decode code 425 = .ok (.aload_n 2, 1) := by decide +kernel
theorem dL_426 : decode code 426 = .ok (.aload_n 0, 1) := by decide +kernel
theorem dL_427 : decode code 427 = .ok (.iload_n 3, 1) := by decide +kernel
theorem dL_428 : decode code 428 = .ok (.iconst 1, 1) := by decide +kernel
theorem dL_429 : decode code 429 = .ok (.iadd, 1) := by decide +kernel
theorem dL_430 : decode code 430 = .ok (.iaload, 1) := by decide +kernel
theorem dL_431 : decode code 431 = .ok (.invokevirtual 36, 3) := by decide +kernel
theorem dL_434 : decode code 434 = .ok (.if_icmp .eq 875, 3) := by decide +kernel
theorem dL_437 : decode code 437 = .ok (.iconst 0, 1) := by decide +kernel
theorem dL_438 : decode code 438 = .ok (.ireturn, 1) := by decide +kernel
theorem dL_439 : decode code 439 = .ok (.aload_n 1, 1) := by decide +kernel
theorem dL_440 : decode code 440 = .ok (.aload_n 0, 1) := by decide +kernel
theorem dL_441 : decode code 441 = .ok (.iload_n 3, 1) := by decide +kernel
theorem dL_442 : decode code 442 = .ok (.iconst 1, 1) := by decide +kernel
theorem dL_443 : decode code 443 = .ok (.iadd, 1) := by decide +kernel
theorem dL_444 : decode code 444 = .ok (.iaload, 1) := by decide +kernel
theorem dL_445 : decode code 445 = .ok (.invokevirtual 37, 3) := by decide +kernel
theorem dL_448 : decode code 448 = .ok (.aload_n 2, 1) := by decide +kernel
theorem dL_449 : decode code 449 = .ok (.aload_n 0, 1) := by decide +kernel
theorem dL_450 : decode code 450 = .ok (.iload_n 3, 1) := by decide +kernel
theorem dL_451 : decode code 451 = .ok (.iconst 1, 1) := by decide +kernel
theorem dL_452 : decode code 452 = .ok (.iadd, 1) := by decide +kernel
theorem dL_453 : decode code 453 = .ok (.iaload, 1) := by decide +kernel
theorem dL_454 : decode code 454 = .ok (.invokevirtual 40, 3) := by decide +kernel
theorem dL_457 : decode code 457 = .ok (.if_icmp .eq 852, 3) := by decide +kernel
theorem dL_460 : decode code 460 = .ok (.iconst 0, 1) := by decide +kernel
theorem dL_461 : decode code 461 = .ok (.ireturn, 1) := by decide +kernel
theorem dL_462 : decode code 462 = .ok (.aload_n 1, 1) := by decide +kernel
theorem dL_463 : decode code 463 = .ok (.aload_n 0, 1) := by decide +kernel
theorem dL_464 : decode code 464 = .ok (.iload_n 3, 1) := by decide +kernel
theorem dL_465 : decode code 465 = .ok (.iconst 1, 1) := by decide +kernel
theorem dL_466 : decode code 466 = .ok (.iadd, 1) := by decide +kernel
theorem dL_467 : decode code 467 = .ok (.iaload, 1) := by decide +kernel
theorem dL_468 : decode code 468 = .ok (.invokevirtual 41, 3) := by decide +kernel
theorem dL_471 : decode code 471 = .ok (.aload_n 2, 1) := by decide +kernel
theorem dL_472 : decode code 472 = .ok (.aload_n 0, 1) := by decide +kernel
theorem dL_473 : decode code 473 = .ok (.iload_n 3, 1) := by decide +kernel
theorem dL_474 : decode code 474 = .ok (.iconst 1, 1) := by decide +kernel
theorem dL_475 : decode code 475 = .ok (.iadd, 1) := by decide +kernel
theorem dL_476 : decode code 476 = .ok (.iaload, 1) := by decide +kernel
theorem dL_477 : decode code 477 = .ok (.invokevirtual 44, 3) := by decide +kernel
theorem dL_480 : decode code 480 = .ok (.if_icmp .eq 829, 3) := by decide +kernel
theorem dL_483 : decode code 483 = .ok (.iconst 0, 1) := by decide +kernel
theorem dL_484 : decode code 484 = .ok (.ireturn, 1) := by decide +kernel
theorem dL_485 : decode code 485 = .ok (.aload_n 1, 1) := by decide +kernel
theorem dL_486 : decode code 486 = .ok (.aload_n 0, 1) := by decide +kernel
theorem dL_487 : decode code 487 = .ok (.iload_n 3, 1) := by decide +kernel
theorem dL_488 : decode code 488 = .ok (.iconst 1, 1) := by decide +kernel
theorem dL_489 : decode code 489 = .ok (.iadd, 1) := by decide +kernel
theorem dL_490 : decode code 490 = .ok (.iaload, 1) := by decide +kernel
theorem dL_491 : decode code 491 = .ok (.invokevirtual 45, 3) := by decide +kernel
theorem dL_494 : decode code 494 = .ok (.aload_n 2, 1) := by decide +kernel
theorem dL_495 : decode code 495 = .ok (.aload_n 0, 1) := by decide +kernel
theorem dL_496 : decode code 496 = .ok (.iload_n 3, 1) := by decide +kernel
theorem dL_497 : decode code 497 = .ok (.iconst 1, 1) := by decide +kernel
theorem dL_498 : decode code 498 = .ok (.iadd, 1) := by decide +kernel
theorem dL_499 : decode code 499 = .ok (.iaload, 1) := by decide +kernel
theorem dL_500 : decode code 500 = .ok (.invokevirtual 48, 3) := by decide +kernel
theorem dL_503 : decode code 503 = .ok (.if_icmp .eq 806, 3) := by decide +kernel
theorem dL_506 : decode code 506 = .ok (.iconst 0, 1) := by decide +kernel
theorem dL_507 : decode code 507 = .ok (.ireturn, 1) := by decide +kernel
theorem dL_508 : decode code 508 = .ok (.aload_n 1, 1) := by decide +kernel
theorem dL_509 : decode code 509 = .ok (.invokevirtual 49, 3) := by decide +kernel
theorem dL_512 : decode code 512 = .ok (.aload_n 2, 1) := by decide +kernel
theorem dL_513 : decode code 513 = .ok (.invokevirtual 53, 3) := by decide +kernel
theorem dL_516 : decode code 516 = .ok (.if_icmp .eq 793, 3) := by decide +kernel
theorem dL_519 : decode code 519 = .ok (.iconst 0, 1) := by decide +kernel
theorem dL_520 : decode code 520 = .ok (.ireturn, 1) := by decide +kernel
theorem dL_521 : decode code 521 = .ok (.aload_n 1, 1) := by decide +kernel
theorem dL_522 : decode code 522 = .ok (.aload_n 0, 1) := by decide +kernel
theorem dL_523 : decode code 523 = .ok (.iload_n 3, 1) := by decide +kernel
theorem dL_524 : decode code 524 = .ok (.iconst 1, 1) := by decide +kernel
theorem dL_525 : decode code 525 = .ok (.iadd, 1) := by decide +kernel
theorem dL_526 : decode code 526 = .ok (.iaload, 1) := by decide +kernel
theorem dL_527 : decode code 527 = .ok (.invokevirtual 54, 3) := by decide +kernel
theorem dL_530 : decode code 530 = .ok (.aload_n 2, 1) := by decide +kernel
theorem dL_531 : decode code 531 = .ok (.aload_n 0, 1) := by decide +kernel
theorem dL_532 : decode code 532 = .ok (.iload_n 3, 1) := by decide +kernel
theorem dL_533 : decode code 533 = .ok (.iconst 1, 1) := by decide +kernel
theorem dL_534 : decode code 534 = .ok (.iadd, 1) := by decide +kernel
theorem dL_535 : decode code 535 = .ok (.iaload, 1) := by decide +kernel
theorem dL_536 : decode code 536 = .ok (.invokevirtual 57, 3) := by decide +kernel
theorem dL_539 : decode code 539 = .ok (.if_icmp .eq 770, 3) := by decide +kernel
theorem dL_542 : decode code 542 = .ok (.iconst 0, 1) := by decide +kernel
theorem dL_543 : decode code 543 = .ok (.ireturn, 1) := by decide +kernel
theorem dL_544 : decode code 544 = .ok (.aload_n 1, 1) := by decide +kernel
theorem dL_545 : decode code 545 = .ok (.invokevirtual 58, 3) := by decide +kernel
theorem dL_548 : decode code 548 = .ok (.aload_n 2, 1) := by decide +kernel
theorem dL_549 : decode code 549 = .ok (.invokevirtual 61, 3) := by decide +kernel
theorem dL_552 : decode code 552 = .ok (.if_icmp .eq 757, 3) := by decide +kernel
theorem dL_555 : decode code 555 = .ok (.iconst 0, 1) := by decide +kernel
theorem dL_556 : decode code 556 = .ok (.ireturn, 1) := by decide +kernel
theorem dL_557 : decode code 557 = .ok (.aload_n 1, 1) := by decide +kernel
theorem dL_558 : decode code 558 = .ok (.invokevirtual 62, 3) := by decide +kernel
theorem dL_561 : decode code 561 = .ok (.aload_n 2, 1) := by decide +kernel
theorem dL_562 : decode code 562 = .ok (.invokevirtual 65, 3) := by decide +kernel
theorem dL_565 : decode code 565 = .ok (.if_icmp .eq 744, 3) := by decide +kernel
theorem dL_568 : decode code 568 = .ok (.iconst 0, 1) := by decide +kernel
theorem dL_569 : decode code 569 = .ok (.ireturn, 1) := by decide +kernel
theorem dL_570 : decode code 570 = .ok (.aload_n 1, 1) := by decide +kernel
theorem dL_571 : decode code 571 = .ok (.invokevirtual 66, 3) := by decide +kernel
theorem dL_574 : decode code 574 = .ok (.aload_n 2, 1) := by decide +kernel
theorem dL_575 : decode code 575 = .ok (.invokevirtual 69, 3) := by decide +kernel
theorem dL_578 : decode code 578 = .ok (.if_icmp .eq 731, 3) := by decide +kernel
theorem dL_581 : decode code 581 = .ok (.iconst 0, 1) := by decide +kernel
theorem dL_582 : decode code 582 = .ok (.ireturn, 1) := by decide +kernel
theorem dL_583 : decode code 583 = .ok (.aload_n 1, 1) := by decide +kernel
theorem dL_584 : decode code 584 = .ok (.invokevirtual 70, 3) := by decide +kernel
theorem dL_587 : decode code 587 = .ok (.aload_n 2, 1) := by decide +kernel
theorem dL_588 : decode code 588 = .ok (.invokevirtual 73, 3) := by decide +kernel
theorem dL_591 : decode code 591 = .ok (.if_icmp .eq 718, 3) := by decide +kernel
theorem dL_594 : decode code 594 = .ok (.iconst 0, 1) := by decide +kernel
theorem dL_595 : decode code 595 = .ok (.ireturn, 1) := by decide +kernel
theorem dL_596 : decode code 596 = .ok (.aload_n 1, 1) := by decide +kernel
theorem dL_597 : decode code 597 = .ok (.invokevirtual 74, 3) := by decide +kernel
theorem dL_600 : decode code 600 = .ok (.aload_n 2, 1) := by decide +kernel
theorem dL_601 : decode code 601 = .ok (.invokevirtual 77, 3) := by decide +kernel
theorem dL_604 : decode code 604 = .ok (.if_icmp .eq 705, 3) := by decide +kernel
theorem dL_607 : decode code 607 = .ok (.iconst 0, 1) := by decide +kernel
theorem dL_608 : decode code 608 = .ok (.ireturn, 1) := by decide +kernel
theorem dL_609 : decode code 609 = .ok (.aload_n 1, 1) := by decide +kernel
theorem dL_610 : decode code 610 = .ok (.invokevirtual 78, 3) := by decide +kernel
theorem dL_613 : decode code 613 = .ok (.aload_n 2, 1) := by decide +kernel
theorem dL_614 : decode code 614 = .ok (.invokevirtual 81, 3) := by decide +kernel
theorem dL_617 : decode code 617 = .ok (.if_icmp .eq 692, 3) := by decide +kernel
theorem dL_620 : decode code 620 = .ok (.iconst 0, 1) := by decide +kernel
theorem dL_621 : decode code 621 = .ok (.ireturn, 1) := by decide +kernel
theorem dL_622 : decode code 622 = .ok (.aload_n 1, 1) := by decide +kernel
theorem dL_623 : decode code 623 = .ok (.invokevirtual 82, 3) := by decide +kernel
theorem dL_626 : decode code 626 = .ok (.aload_n 2, 1) := by decide +kernel
theorem dL_627 : decode code 627 = .ok (.invokevirtual 85, 3) := by decide +kernel
theorem dL_630 : decode code 630 = .ok (.if_icmp .eq 679, 3) := by decide +kernel
theorem dL_633 : decode code 633 = .ok (.iconst 0, 1) := by decide +kernel
theorem dL_634 : decode code 634 = .ok (.ireturn, 1) := by decide +kernel
theorem dL_635 : decode code 635 = .ok (.aload_n 1, 1) := by decide +kernel
theorem dL_636 : decode code 636 = .ok (.invokevirtual 86, 3) := by decide +kernel
theorem dL_639 : decode code 639 = .ok (.aload_n 2, 1) := by decide +kernel
theorem dL_640 : decode code 640 = .ok (.invokevirtual 89, 3) := by decide +kernel
theorem dL_643 : decode code 643 = .ok (.if_icmp .eq 666, 3) := by decide +kernel
theorem dL_646 : decode code 646 = .ok (.iconst 0, 1) := by decide +kernel
theorem dL_647 : decode code 647 = .ok (.ireturn, 1) := by decide +kernel
theorem dL_648 : decode code 648 = .ok (.aload_n 1, 1) := by decide +kernel
theorem dL_649 : decode code 649 = .ok (.invokevirtual 90, 3) := by decide +kernel
theorem dL_652 : decode code 652 = .ok (.aload_n 2, 1) := by decide +kernel
theorem dL_653 : decode code 653 = .ok (.invokevirtual 93, 3) := by decide +kernel
theorem dL_656 : decode code 656 = .ok (.if_icmp .eq 653, 3) := by decide +kernel
theorem dL_659 : decode code 659 = .ok (.iconst 0, 1) := by decide +kernel
theorem dL_660 : decode code 660 = .ok (.ireturn, 1) := by decide +kernel
theorem dL_661 : decode code 661 = .ok (.aload_n 1, 1) := by decide +kernel
theorem dL_662 : decode code 662 = .ok (.aload_n 0, 1) := by decide +kernel
theorem dL_663 : decode code 663 = .ok (.iload_n 3, 1) := by decide +kernel
theorem dL_664 : decode code 664 = .ok (.iconst 1, 1) := by decide +kernel
theorem dL_665 : decode code 665 = .ok (.iadd, 1) := by decide +kernel
theorem dL_666 : decode code 666 = .ok (.iaload, 1) := by decide +kernel
theorem dL_667 : decode code 667 = .ok (.invokevirtual 94, 3) := by decide +kernel
theorem dL_670 : decode code 670 = .ok (.aload_n 2, 1) := by decide +kernel
theorem dL_671 : decode code 671 = .ok (.aload_n 0, 1) := by decide +kernel
theorem dL_672 : decode code 672 = .ok (.iload_n 3, 1) := by decide +kernel
theorem dL_673 : decode code 673 = .ok (.iconst 1, 1) := by decide +kernel
theorem dL_674 : decode code 674 = .ok (.iadd, 1) := by decide +kernel
theorem dL_675 : decode code 675 = .ok (.iaload, 1) := by decide +kernel
theorem dL_676 : decode code 676 = .ok (.invokevirtual 97, 3) := by decide +kernel
theorem dL_679 : decode code 679 = .ok (.if_icmp .eq 630, 3) := by decide +kernel
theorem dL_682 : decode code 682 = .ok (.iconst 0, 1) := by decide +kernel
theorem dL_683 : decode code 683 = .ok (.ireturn, 1) := by decide +kernel
theorem dL_684 : decode code 684 = .ok (.aload_n 1, 1) := by decide +kernel
theorem dL_685 : decode code 685 = .ok (.aload_n 0, 1) := by decide +kernel
theorem dL_686 : decode code 686 = .ok (.iload_n 3, 1) := by decide +kernel
theorem dL_687 : decode code 687 = .ok (.iconst 1, 1) := by decide +kernel
theorem dL_688 : decode code 688 = .ok (.iadd, 1) := by decide +kernel
theorem dL_689 : decode code 689 = .ok (.iaload, 1) := by decide +kernel
theorem dL_690 : decode code 690 = .ok (.invokevirtual 98, 3) := by decide +kernel
theorem dL_693 : decode code 693 = .ok (.aload_n 2, 1) := by decide +kernel
theorem dL_694 : decode code 694 = .ok (.aload_n 0, 1) := by decide +kernel
theorem dL_695 : decode code 695 = .ok (.iload_n 3, 1) := by decide +kernel
theorem dL_696 : decode code 696 = .ok (.iconst 1, 1) := by decide +kernel
theorem dL_697 : decode code 697 = .ok (.iadd, 1) := by decide +kernel
theorem dL_698 : decode code 698 = .ok (.iaload, 1) := by decide +kernel
theorem dL_699 : decode code 699 = .ok (.invokevirtual 101, 3) := by decide +kernel
theorem dL_702 : decode code 702 = .ok (.if_icmp .eq 607, 3) := by decide +kernel
theorem dL_705 : decode code 705 = .ok (.iconst 0, 1) := by decide +kernel
theorem dL_706 : decode code 706 = .ok (.ireturn, 1) := by decide +kernel
theorem dL_707 : decode code 707 = .ok (.aload_n 1, 1) := by decide +kernel
theorem dL_708 : decode code 708 = .ok (.aload_n 0, 1) := by decide +kernel
theorem dL_709 : decode code 709 = .ok (.iload_n 3, 1) := by decide +kernel
theorem dL_710 : decode code 710 = .ok (.iconst 1, 1) := by decide +kernel
theorem dL_711 : decode code 711 = .ok (.iadd, 1) := by decide +kernel
theorem dL_712 : decode code 712 = .ok (.iaload, 1) := by decide +kernel
theorem dL_713 : decode code 713 = .ok (.invokevirtual 102, 3) := by decide +kernel
theorem dL_716 : decode code 716 = .ok (.aload_n 2, 1) := by decide +kernel
theorem dL_717 : decode code 717 = .ok (.aload_n 0, 1) := by decide +kernel
theorem dL_718 : decode code 718 = .ok (.iload_n 3, 1) := by decide +kernel
theorem dL_719 : decode code 719 = .ok (.iconst 1, 1) := by decide +kernel
theorem dL_720 : decode code 720 = .ok (.iadd, 1) := by decide +kernel
theorem dL_721 : decode code 721 = .ok (.iaload, 1) := by decide +kernel
theorem dL_722 : decode code 722 = .ok (.invokevirtual 105, 3) := by decide +kernel
theorem dL_725 : decode code 725 = .ok (.if_icmp .eq 584, 3) := by decide +kernel
theorem dL_728 : decode code 728 = .ok (.iconst 0, 1) := by decide +kernel
theorem dL_729 : decode code 729 = .ok (.ireturn, 1) := by decide +kernel
theorem dL_730 : decode code 730 = .ok (.aload_n 1, 1) := by decide +kernel
theorem dL_731 : decode code 731 = .ok (.aload_n 0, 1) := by decide +kernel
theorem dL_732 : decode code 732 = .ok (.iload_n 3, 1) := by decide +kernel
theorem dL_733 : decode code 733 = .ok (.iconst 1, 1) := by decide +kernel
theorem dL_734 : decode code 734 = .ok (.iadd, 1) := by decide +kernel
theorem dL_735 : decode code 735 = .ok (.iaload, 1) := by decide +kernel
theorem dL_736 : decode code 736 = .ok (.invokevirtual 106, 3) := by decide +kernel
theorem dL_739 : decode code 739 = .ok (.aload_n 2, 1) := by decide +kernel
theorem dL_740 : decode code 740 = .ok (.aload_n 0, 1) := by decide +kernel
theorem dL_741 : decode code 741 = .ok (.iload_n 3, 1) := by decide +kernel
theorem dL_742 : decode code 742 = .ok (.iconst 1, 1) := by decide +kernel
theorem dL_743 : decode code 743 = .ok (.iadd, 1) := by decide +kernel
theorem dL_744 : decode code 744 = .ok (.iaload, 1) := by decide +kernel
theorem dL_745 : decode code 745 = .ok (.invokevirtual 109, 3) := by decide +kernel
theorem dL_748 : decode code 748 = .ok (.if_icmp .eq 561, 3) := by decide +kernel
theorem dL_751 : decode code 751 = .ok (.iconst 0, 1) := by decide +kernel
theorem dL_752 : decode code 752 = .ok (.ireturn, 1) := by decide +kernel
theorem dL_753 : decode code 753 = .ok (.aload_n 1, 1) := by decide +kernel
theorem dL_754 : decode code 754 = .ok (.aload_n 0, 1) := by decide +kernel
theorem dL_755 : decode code 755 = .ok (.iload_n 3, 1) := by decide +kernel
theorem dL_756 : decode code 756 = .ok (.iconst 1, 1) := by decide +kernel
theorem dL_757 : decode code 757 = .ok (.iadd, 1) := by decide +kernel
theorem dL_758 : decode code 758 = .ok (.iaload, 1) := by decide +kernel
theorem dL_759 : decode code 759 = .ok (.invokevirtual 110, 3) := by decide +kernel
theorem dL_762 : decode code 762 = .ok (.aload_n 2, 1) := by decide +kernel
theorem dL_763 : decode code 763 = .ok (.aload_n 0, 1) := by decide +kernel
theorem dL_764 : decode code 764 = .ok (.iload_n 3, 1) := by decide +kernel
theorem dL_765 : decode code 765 = .ok (.iconst 1, 1) := by decide +kernel
theorem dL_766 : decode code 766 = .ok (.iadd, 1) := by decide +kernel
theorem dL_767 : decode code 767 = .ok (.iaload, 1) := by decide +kernel
theorem dL_768 : decode code 768 = .ok (.invokevirtual 113, 3) := by decide +kernel
theorem dL_771 : decode code 771 = .ok (.if_icmp .eq 538, 3) := by decide +kernel
theorem dL_774 : decode code 774 = .ok (.iconst 0, 1) := by decide +kernel
theorem dL_775 : decode code 775 = .ok (.ireturn, 1) := by decide +kernel
theorem dL_776 : decode code 776 = .ok (.aload_n 1, 1) := by decide +kernel
theorem dL_777 : decode code 777 = .ok (.aload_n 0, 1) := by decide +kernel
theorem dL_778 : decode code 778 = .ok (.iload_n 3, 1) := by decide +kernel
theorem dL_779 : decode code 779 = .ok (.iconst 1, 1) := by decide +kernel
theorem dL_780 : decode code 780 = .ok (.iadd, 1) := by decide +kernel
theorem dL_781 : decode code 781 = .ok (.iaload, 1) := by decide +kernel
theorem dL_782 : decode code 782 = .ok (.invokevirtual 114, 3) := by decide +kernel
theorem dL_785 : decode code 785 = .ok (.aload_n 2, 1) := by decide +kernel
theorem dL_786 : decode code 786 = .ok (.aload_n 0, 1) := by decide +kernel
theorem dL_787 : decode code 787 = .ok (.iload_n 3, 1) := by decide +kernel
theorem dL_788 : decode code 788 = .ok (.iconst 1, 1) := by decide +kernel
theorem dL_789 : decode code 789 = .ok (.iadd, 1) := by decide +kernel
theorem dL_790 : decode code 790 = .ok (.iaload, 1) := by decide +kernel
theorem dL_791 : decode code 791 = .ok (.invokevirtual 117, 3) := by decide +kernel
theorem dL_794 : decode code 794 = .ok (.if_icmp .eq 515, 3) := by decide +kernel
theorem dL_797 : decode code 797 = .ok (.iconst 0, 1) := by decide +kernel
theorem dL_798 : decode code 798 = .ok (.ireturn, 1) := by decide +kernel
theorem dL_799 : decode code 799 = .ok (.aload_n 1, 1) := by decide +kernel
theorem dL_800 : decode code 800 = .ok (.aload_n 0, 1) := by decide +kernel
theorem dL_801 : decode code 801 = .ok (.iload_n 3, 1) := by decide +kernel
theorem dL_802 : decode code 802 = .ok (.iconst 1, 1) := by decide +kernel
theorem dL_803 : decode code 803 = .ok (.iadd, 1) := by decide +kernel
theorem dL_804 : decode code 804 = .ok (.iaload, 1) := by decide +kernel
theorem dL_805 : decode code 805 = .ok (.invokevirtual 118, 3) := by decide +kernel
theorem dL_808 : decode code 808 = .ok (.aload_n 2, 1) := by decide +kernel
theorem dL_809 : decode code 809 = .ok (.aload_n 0, 1) := by decide +kernel
theorem dL_810 : decode code 810 = .ok (.iload_n 3, 1) := by decide +kernel
theorem dL_811 : decode code 811 = .ok (.iconst 1, 1) := by decide +kernel
theorem dL_812 : decode code 812 = .ok (.iadd, 1) := by decide +kernel
theorem dL_813 : decode code 813 = .ok (.iaload, 1) := by decide +kernel
theorem dL_814 : decode code 814 = .ok (.invokevirtual 121, 3) := by decide +kernel
theorem dL_817 : decode code 817 = .ok (.if_icmp .eq 492, 3) := by decide +kernel
theorem dL_820 : decode code 820 = .ok (.iconst 0, 1) := by decide +kernel
theorem dL_821 : decode code 821 = .ok (.ireturn, 1) := by decide +kernel
theorem dL_822 : decode code 822 = .ok (.aload_n 1, 1) := by decide +kernel
theorem dL_823 : decode code 823 = .ok (.aload_n 0, 1) := by decide +kernel
theorem dL_824 : decode code 824 = .ok (.iload_n 3, 1) := by decide +kernel
theorem dL_825 : decode code 825 = .ok (.iconst 1, 1) := by decide +kernel
theorem dL_826 : decode code 826 = .ok (.iadd, 1) := by decide +kernel
theorem dL_827 : decode code 827 = .ok (.iaload, 1) := by decide +kernel
theorem dL_828 : decode code 828 = .ok (.invokevirtual 122, 3) := by decide +kernel
theorem dL_831 : decode code 831 = .ok (.aload_n 2, 1) := by decide +kernel
theorem dL_832 : decode code 832 = .ok (.aload_n 0, 1) := by decide +kernel
theorem dL_833 : decode code 833 = .ok (.iload_n 3, 1) := by decide +kernel
theorem dL_834 : decode code 834 = .ok (.iconst 1, 1) := by decide +kernel
theorem dL_835 : decode code 835 = .ok (.iadd, 1) := by decide +kernel
theorem dL_836 : decode code 836 = .ok (.iaload, 1) := by decide +kernel
theorem dL_837 : decode code 837 = .ok (.invokevirtual 125, 3) := by decide +kernel
theorem dL_840 : decode code 840 = .ok (.if_icmp .eq 469, 3) := by decide +kernel
theorem dL_843 : decode code 843 = .ok (.iconst 0, 1) := by decide +kernel
theorem dL_844 : decode code 844 = .ok (.ireturn, 1) := by decide +kernel
theorem dL_845 : decode code 845 = .ok (.aload_n 1, 1) := by decide +kernel
theorem dL_846 : decode code 846 = .ok (.aload_n 0, 1) := by decide +kernel
theorem dL_847 : decode code 847 = .ok (.iload_n 3, 1) := by decide +kernel
theorem dL_848 : decode code 848 = .ok (.iconst 1, 1) := by decide +kernel
theorem dL_849 : decode code 849 = .ok (.iadd, 1) := by decide +kernel
theorem dL_850 : decode code 850 = .ok (.iaload, 1) := by decide +kernel
theorem dL_851 : decode code 851 = .ok (.invokevirtual 126, 3) := by decide +kernel
theorem dL_854 : decode code 854 = .ok (.aload_n 2, 1) := by decide +kernel
theorem dL_855 : decode code 855 = .ok (.aload_n 0, 1) := by decide +kernel
theorem dL_856 : decode code 856 = .ok (.iload_n 3, 1) := by decide +kernel
theorem dL_857 : decode code 857 = .ok (.iconst 1, 1) := by decide +kernel
theorem dL_858 : decode code 858 = .ok (.iadd, 1) := by decide +kernel
theorem dL_859 : decode code 859 = .ok (.iaload, 1) := by decide +kernel
theorem dL_860 : decode code 860 = .ok (.invokevirtual 129, 3) := by decide +kernel
theorem dL_863 : decode code 863 = .ok (.if_icmp .eq 446, 3) := by decide +kernel
theorem dL_866 : decode code 866 = .ok (.iconst 0, 1) := by decide +kernel
theorem dL_867 : decode code 867 = .ok (.ireturn, 1) := by decide +kernel
theorem dL_868 : decode code 868 = .ok (.aload_n 1, 1) := by decide +kernel
theorem dL_869 : decode code 869 = .ok (.aload_n 0, 1) := by decide +kernel
theorem dL_870 : decode code 870 = .ok (.iload_n 3, 1) := by decide +kernel
theorem dL_871 : decode code 871 = .ok (.iconst 1, 1) := by decide +kernel
theorem dL_872 : decode code 872 = .ok (.iadd, 1) := by decide +kernel
theorem dL_873 : decode code 873 = .ok (.iaload, 1) := by decide +kernel
theorem dL_874 : decode code 874 = .ok (.invokevirtual 130, 3) := by decide +kernel
theorem dL_877 : decode code 877 = .ok (.aload_n 2, 1) := by decide +kernel
theorem dL_878 : decode code 878 = .ok (.aload_n 0, 1) := by decide +kernel
theorem dL_879 : decode code 879 = .ok (.iload_n 3, 1) := by decide +kernel
theorem dL_880 : decode code 880 = .ok (.iconst 1, 1) := by decide +kernel
theorem dL_881 : decode code 881 = .ok (.iadd, 1) := by decide +kernel
theorem dL_882 : decode code 882 = .ok (.iaload, 1) := by decide +kernel
theorem dL_883 : decode code 883 = .ok (.invokevirtual 133, 3) := by decide +kernel
theorem dL_886 : decode code 886 = .ok (.if_icmp .eq 423, 3) := by decide +kernel
theorem dL_889 : decode code 889 = .ok (.iconst 0, 1) := by decide +kernel
theorem dL_890 : decode code 890 = .ok (.ireturn, 1) := by decide +kernel
theorem dL_891 : decode code 891 = .ok (.aload_n 1, 1) := by decide +kernel
theorem dL_892 : decode code 892 = .ok (.aload_n 0, 1) := by decide +kernel
theorem dL_893 : decode code 893 = .ok (.iload_n 3, 1) := by decide +kernel
theorem dL_894 : decode code 894 = .ok (.iconst 1, 1) := by decide +kernel
theorem dL_895 : decode code 895 = .ok (.iadd, 1) := by decide +kernel
theorem dL_896 : decode code 896 = .ok (.iaload, 1) := by decide +kernel
theorem dL_897 : decode code 897 = .ok (.invokevirtual 134, 3) := by decide +kernel
theorem dL_900 : decode code 900 = .ok (.aload_n 2, 1) := by decide +kernel
theorem dL_901 : decode code 901 = .ok (.aload_n 0, 1) := by decide +kernel
theorem dL_902 : decode code 902 = .ok (.iload_n 3, 1) := by decide +kernel
theorem dL_903 : decode code 903 = .ok (.iconst 1, 1) := by decide +kernel
theorem dL_904 : decode code 904 = .ok (.iadd, 1) := by decide +kernel
theorem dL_905 : decode code 905 = .ok (.iaload, 1) := by decide +kernel
theorem dL_906 : decode code 906 = .ok (.invokevirtual 137, 3) := by decide +kernel
theorem dL_909 : decode code 909 = .ok (.if_icmp .eq 400, 3) := by decide +kernel
theorem dL_912 : decode code 912 = .ok (.iconst 0, 1) := by decide +kernel
theorem dL_913 : decode code 913 = .ok (.ireturn, 1) := by decide +kernel
theorem dL_914 : decode code 914 = .ok (.aload_n 1, 1) := by decide +kernel
theorem dL_915 : decode code 915 = .ok (.aload_n 0, 1) := by decide +kernel
theorem dL_916 : decode code 916 = .ok (.iload_n 3, 1) := by decide +kernel
theorem dL_917 : decode code 917 = .ok (.iconst 1, 1) := by decide +kernel
theorem dL_918 : decode code 918 = .ok (.iadd, 1) := by decide +kernel
theorem dL_919 : decode code 919 = .ok (.iaload, 1) := by decide +kernel
theorem dL_920 : decode code 920 = .ok (.invokevirtual 138, 3) := by decide +kernel
theorem dL_923 : decode code 923 = .ok (.aload_n 2, 1) := by decide +kernel
theorem dL_924 : decode code 924 = .ok (.aload_n 0, 1) := by decide +kernel
theorem dL_925 : decode code 925 = .ok (.iload_n 3, 1) := by decide +kernel
theorem dL_926 : decode code 926 = .ok (.iconst 1, 1) := by decide +kernel
theorem dL_927 : decode code 927 = .ok (.iadd, 1) := by decide +kernel
theorem dL_928 : decode code 928 = .ok (.iaload, 1) := by decide +kernel
theorem dL_929 : decode code 929 = .ok (.invokevirtual 141, 3) := by decide +kernel
theorem dL_932 : decode code 932 = .ok (.if_icmp .eq 377, 3) := by decide +kernel
theorem dL_935 : decode code 935 = .ok (.iconst 0, 1) := by decide +kernel
theorem dL_936 : decode code 936 = .ok (.ireturn, 1) := by decide +kernel
theorem dL_937 : decode code 937 = .ok (.aload_n 1, 1) := by decide +kernel
theorem dL_938 : decode code 938 = .ok (.aload_n 0, 1) := by decide +kernel
theorem dL_939 : decode code 939 = .ok (.iload_n 3, 1) := by decide +kernel
theorem dL_940 : decode code 940 = .ok (.iconst 1, 1) := by decide +kernel
theorem dL_941 : decode code 941 = .ok (.iadd, 1) := by decide +kernel
theorem dL_942 : decode code 942 = .ok (.iaload, 1) := by decide +kernel
theorem dL_943 : decode code 943 = .ok (.invokevirtual 142, 3) := by decide +kernel
theorem dL_946 : decode code 946 = .ok (.aload_n 2, 1) := by decide +kernel
theorem dL_947 : decode code 947 = .ok (.aload_n 0, 1) := by decide +kernel
theorem dL_948 : decode code 948 = .ok (.iload_n 3, 1) := by decide +kernel
theorem dL_949 : decode code 949 = .ok (.iconst 1, 1) := by decide +kernel
theorem dL_950 : decode code 950 = .ok (.iadd, 1) := by decide +kernel
theorem dL_951 : decode code 951 = .ok (.iaload, 1) := by decide +kernel
theorem dL_952 : decode code 952 = .ok (.invokevirtual 145, 3) := by decide +kernel
theorem dL_955 : decode code 955 = .ok (.if_icmp .eq 354, 3) := by decide +kernel
theorem dL_958 : decode code 958 = .ok (.iconst 0, 1) := by decide +kernel
theorem dL_959 : decode code 959 = .ok (.ireturn, 1) := by decide +kernel
theorem dL_960 : decode code 960 = .ok (.aload_n 1, 1) := by decide +kernel
theorem dL_961 : decode code 961 = .ok (.aload_n 0, 1) := by decide +kernel
theorem dL_962 : decode code 962 = .ok (.iload_n 3, 1) := by decide +kernel
theorem dL_963 : decode code 963 = .ok (.iconst 1, 1) := by decide +kernel
theorem dL_964 : decode code 964 = .ok (.iadd, 1) := by decide +kernel
theorem dL_965 : decode code 965 = .ok (.iaload, 1) := by decide +kernel
theorem dL_966 : decode code 966 = .ok (.invokevirtual 146, 3) := by decide +kernel
theorem dL_969 : decode code 969 = .ok (.aload_n 2, 1) := by decide +kernel
theorem dL_970 : decode code 970 = .ok (.aload_n 0, 1) := by decide +kernel
theorem dL_971 : decode code 971 = .ok (.iload_n 3, 1) := by decide +kernel
theorem dL_972 : decode code 972 = .ok (.iconst 1, 1) := by decide +kernel
theorem dL_973 : decode code 973 = .ok (.iadd, 1) := by decide +kernel
theorem dL_974 : decode code 974 = .ok (.iaload, 1) := by decide +kernel
theorem dL_975 : decode code 975 = .ok (.invokevirtual 149, 3) := by decide +kernel
theorem dL_978 : decode code 978 = .ok (.if_icmp .eq 331, 3) := by decide +kernel
theorem dL_981 : decode code 981 = .ok (.iconst 0, 1) := by decide +kernel
theorem dL_982 : decode code 982 = .ok (.ireturn, 1) := by decide +kernel
theorem dL_983 : decode code 983 = .ok (.aload_n 1, 1) := by decide +kernel
theorem dL_984 : decode code 984 = .ok (.aload_n 0, 1) := by decide +kernel
theorem dL_985 : decode code 985 = .ok (.iload_n 3, 1) := by decide +kernel
theorem dL_986 : decode code 986 = .ok (.iconst 1, 1) := by decide +kernel
theorem dL_987 : decode code 987 = .ok (.iadd, 1) := by decide +kernel
theorem dL_988 : decode code 988 = .ok (.iaload, 1) := by decide +kernel
theorem dL_989 : decode code 989 = .ok (.invokevirtual 150, 3) := by decide +kernel
theorem dL_992 : decode code 992 = .ok (.aload_n 2, 1) := by decide +kernel
theorem dL_993 : decode code 993 = .ok (.aload_n 0, 1) := by decide +kernel
theorem dL_994 : decode code 994 = .ok (.iload_n 3, 1) := by decide +kernel
theorem dL_995 : decode code 995 = .ok (.iconst 1, 1) := by decide +kernel
theorem dL_996 : decode code 996 = .ok (.iadd, 1) := by decide +kernel
theorem dL_997 : decode code 997 = .ok (.iaload, 1) := by decide +kernel
theorem dL_998 : decode code 998 = .ok (.invokevirtual 153, 3) := by decide +kernel
theorem dL_1001 : decode code 1001 = .ok (.if_icmp .eq 308, 3) := by decide +kernel
theorem dL_1004 : decode code 1004 = .ok (.iconst 0, 1) := by decide +kernel
theorem dL_1005 : decode code 1005 = .ok (.ireturn, 1) := by decide +kernel
theorem dL_1006 : decode code 1006 = .ok (.aload_n 1, 1) := by decide +kernel
theorem dL_1007 : decode code 1007 = .ok (.aload_n 0, 1) := by decide +kernel
theorem dL_1008 : decode code 1008 = .ok (.iload_n 3, 1) := by decide +kernel
theorem dL_1009 : decode code 1009 = .ok (.iconst 1, 1) := by decide +kernel
theorem dL_1010 : decode code 1010 = .ok (.iadd, 1) := by decide +kernel
theorem dL_1011 : decode code 1011 = .ok (.iaload, 1) := by decide +kernel
theorem dL_1012 : decode code 1012 = .ok (.invokevirtual 154, 3) := by decide +kernel
theorem dL_1015 : decode code 1015 = .ok (.aload_n 2, 1) := by decide +kernel
theorem dL_1016 : decode code 1016 = .ok (.aload_n 0, 1) := by decide +kernel
theorem dL_1017 : decode code 1017 = .ok (.iload_n 3, 1) := by decide +kernel
theorem dL_1018 : decode code 1018 = .ok (.iconst 1, 1) := by decide +kernel
theorem dL_1019 : decode code 1019 = .ok (.iadd, 1) := by decide +kernel
theorem dL_1020 : decode code 1020 = .ok (.iaload, 1) := by decide +kernel
theorem dL_1021 : decode code 1021 = .ok (.invokevirtual 157, 3) := by decide +kernel
theorem dL_1024 : decode code 1024 = .ok (.if_icmp .eq 285, 3) := by decide +kernel
theorem dL_1027 : decode code 1027 = .ok (.iconst 0, 1) := by decide +kernel
theorem dL_1028 : decode code 1028 = .ok (.ireturn, 1) := by decide +kernel
theorem dL_1029 : decode code 1029 = .ok (.aload_n 1, 1) := by decide +kernel
theorem dL_1030 : decode code 1030 = .ok (.aload_n 0, 1) := by decide +kernel
theorem dL_1031 : decode code 1031 = .ok (.iload_n 3, 1) := by decide +kernel
theorem dL_1032 : decode code 1032 = .ok (.iconst 1, 1) := by decide +kernel
theorem dL_1033 : decode code 1033 = .ok (.iadd, 1) := by decide +kernel
theorem dL_1034 : decode code 1034 = .ok (.iaload, 1) := by decide +kernel
theorem dL_1035 : decode code 1035 = .ok (.aload_n 0, 1) := by decide +kernel
theorem dL_1036 : decode code 1036 = .ok (.iload_n 3, 1) := by decide +kernel
theorem dL_1037 : decode code 1037 = .ok (.iconst 2, 1) := by decide +kernel
theorem dL_1038 : decode code 1038 = .ok (.iadd, 1) := by decide +kernel
theorem dL_1039 : decode code 1039 = .ok (.iaload, 1) := by decide +kernel
theorem dL_1040 : decode code 1040 = .ok (.invokevirtual 158, 3) := by decide +kernel
theorem dL_1043 : decode code 1043 = .ok (.aload_n 2, 1) := by decide +kernel
theorem dL_1044 : decode code 1044 = .ok (.aload_n 0, 1) := by decide +kernel
theorem dL_1045 : decode code 1045 = .ok (.iload_n 3, 1) := by decide +kernel
theorem dL_1046 : decode code 1046 = .ok (.iconst 1, 1) := by decide +kernel
theorem dL_1047 : decode code 1047 = .ok (.iadd, 1) := by decide +kernel
theorem dL_1048 : decode code 1048 = .ok (.iaload, 1) := by decide +kernel
theorem dL_1049 : decode code 1049 = .ok (.aload_n 0, 1) := by decide +kernel
theorem dL_1050 : decode code 1050 = .ok (.iload_n 3, 1) := by decide +kernel
theorem dL_1051 : decode code 1051 = .ok (.iconst 2, 1) := by decide +kernel
theorem dL_1052 : decode code 1052 = .ok (.iadd, 1) := by decide +kernel
theorem dL_1053 : decode code 1053 = .ok (.iaload, 1) := by decide +kernel
theorem dL_1054 : decode code 1054 = .ok (.invokevirtual 162, 3) := by decide +kernel
theorem dL_1057 : decode code 1057 = .ok (.if_icmp .eq 252, 3) := by decide +kernel
theorem dL_1060 : decode code 1060 = .ok (.iconst 0, 1) := by decide +kernel
theorem dL_1061 : decode code 1061 = .ok (.ireturn, 1) := by decide +kernel
theorem dL_1062 : decode code 1062 = .ok (.aload_n 1, 1) := by decide +kernel
theorem dL_1063 : decode code 1063 = .ok (.aload_n 0, 1) := by decide +kernel
theorem dL_1064 : decode code 1064 = .ok (.iload_n 3, 1) := by decide +kernel
theorem dL_1065 : decode code 1065 = .ok (.iconst 1, 1) := by decide +kernel
theorem dL_1066 : decode code 1066 = .ok (.iadd, 1) := by decide +kernel
theorem dL_1067 : decode code 1067 = .ok (.iaload, 1) := by decide +kernel
theorem dL_1068 : decode code 1068 = .ok (.aload_n 0, 1) := by decide +kernel
theorem dL_1069 : decode code 1069 = .ok (.iload_n 3, 1) := by decide +kernel
theorem dL_1070 : decode code 1070 = .ok (.iconst 2, 1) := by decide +kernel
theorem dL_1071 : decode code 1071 = .ok (.iadd, 1) := by decide +kernel
theorem dL_1072 : decode code 1072 = .ok (.iaload, 1) := by decide +kernel
theorem dL_1073 : decode code 1073 = .ok (.invokevirtual 163, 3) := by decide +kernel
theorem dL_1076 : decode code 1076 = .ok (.aload_n 2, 1) := by decide +kernel
theorem dL_1077 : decode code 1077 = .ok (.aload_n 0, 1) := by decide +kernel
theorem dL_1078 : decode code 1078 = .ok (.iload_n 3, 1) := by decide +kernel
theorem dL_1079 : decode code 1079 = .ok (.iconst 1, 1) := by decide +kernel
theorem dL_1080 : decode code 1080 = .ok (.iadd, 1) := by decide +kernel
theorem dL_1081 : decode code 1081 = .ok (.iaload, 1) := by decide +kernel
theorem dL_1082 : decode code 1082 = .ok (.aload_n 0, 1) := by decide +kernel
theorem dL_1083 : decode code 1083 = .ok (.iload_n 3, 1) := by decide +kernel
theorem dL_1084 : decode code 1084 = .ok (.iconst 2, 1) := by decide +kernel
theorem dL_1085 : decode code 1085 = .ok (.iadd, 1) := by decide +kernel
theorem dL_1086 : decode code 1086 = .ok (.iaload, 1) := by decide +kernel
theorem dL_1087 : decode code 1087 = .ok (.invokevirtual 166, 3) := by decide +kernel
theorem dL_1090 : decode code 1090 = .ok (.if_icmp .eq 219, 3) := by decide +kernel
theorem dL_1093 : decode code 1093 = .ok (.iconst 0, 1) := by decide +kernel
theorem dL_1094 : decode code 1094 = .ok (.ireturn, 1) := by decide +kernel
theorem dL_1095 : decode code 1095 = .ok (.aload_n 1, 1) := by decide +kernel
theorem dL_1096 : decode code 1096 = .ok (.aload_n 0, 1) := by decide +kernel
theorem dL_1097 : decode code 1097 = .ok (.iload_n 3, 1) := by decide +kernel
theorem dL_1098 : decode code 1098 = .ok (.iconst 1, 1) := by decide +kernel
theorem dL_1099 : decode code 1099 = .ok (.iadd, 1) := by decide +kernel
theorem dL_1100 : decode code 1100 = .ok (.iaload, 1) := by decide +kernel
theorem dL_1101 : decode code 1101 = .ok (.invokevirtual 167, 3) := by decide +kernel
theorem dL_1104 : decode code 1104 = .ok (.aload_n 2, 1) := by decide +kernel
theorem dL_1105 : decode code 1105 = .ok (.aload_n 0, 1) := by decide +kernel
theorem dL_1106 : decode code 1106 = .ok (.iload_n 3, 1) := by decide +kernel
theorem dL_1107 : decode code 1107 = .ok (.iconst 1, 1) := by decide +kernel
theorem dL_1108 : decode code 1108 = .ok (.iadd, 1) := by decide +kernel
theorem dL_1109 : decode code 1109 = .ok (.iaload, 1) := by decide +kernel
theorem dL_1110 : decode code 1110 = .ok (.invokevirtual 170, 3) := by decide +kernel
theorem dL_1113 : decode code 1113 = .ok (.if_icmp .eq 196, 3) := by decide +kernel
theorem dL_1116 : decode code 1116 = .ok (.iconst 0, 1) := by decide +kernel
theorem dL_1117 : decode code 1117 = .ok (.ireturn, 1) := by decide +kernel
theorem dL_1118 : decode code 1118 = .ok (.aload_n 1, 1) := by decide +kernel
theorem dL_1119 : decode code 1119 = .ok (.invokevirtual 171, 3) := by decide +kernel
theorem dL_1122 : decode code 1122 = .ok (.aload_n 2, 1) := by decide +kernel
theorem dL_1123 : decode code 1123 = .ok (.invokevirtual 174, 3) := by decide +kernel
theorem dL_1126 : decode code 1126 = .ok (.if_icmp .eq 183, 3) := by decide +kernel
theorem dL_1129 : decode code 1129 = .ok (.iconst 0, 1) := by decide +kernel
theorem dL_1130 : decode code 1130 = .ok (.ireturn, 1) := by decide +kernel
theorem dL_1131 : decode code 1131 = .ok (.aload_n 1, 1) := by decide +kernel
theorem dL_1132 : decode code 1132 = .ok (.aload_n 0, 1) := by decide +kernel
theorem dL_1133 : decode code 1133 = .ok (.iload_n 3, 1) := by decide +kernel
theorem dL_1134 : decode code 1134 = .ok (.iconst 1, 1) := by decide +kernel
theorem dL_1135 : decode code 1135 = .ok (.iadd, 1) := by decide +kernel
theorem dL_1136 : decode code 1136 = .ok (.iaload, 1) := by decide +kernel
theorem dL_1137 : decode code 1137 = .ok (.invokevirtual 175, 3) := by decide +kernel
theorem dL_1140 : decode code 1140 = .ok (.aload_n 2, 1) := by decide +kernel
theorem dL_1141 : decode code 1141 = .ok (.aload_n 0, 1) := by decide +kernel
theorem dL_1142 : decode code 1142 = .ok (.iload_n 3, 1) := by decide +kernel
theorem dL_1143 : decode code 1143 = .ok (.iconst 1, 1) := by decide +kernel
theorem dL_1144 : decode code 1144 = .ok (.iadd, 1) := by decide +kernel
theorem dL_1145 : decode code 1145 = .ok (.iaload, 1) := by decide +kernel
theorem dL_1146 : decode code 1146 = .ok (.invokevirtual 178, 3) := by decide +kernel
theorem dL_1149 : decode code 1149 = .ok (.if_icmp .eq 160, 3) := by decide +kernel
theorem dL_1152 : decode code 1152 = .ok (.iconst 0, 1) := by decide +kernel
theorem dL_1153 : decode code 1153 = .ok (.ireturn, 1) := by decide +kernel
theorem dL_1154 : decode code 1154 = .ok (.aload_n 1, 1) := by decide +kernel
theorem dL_1155 : decode code 1155 = .ok (.aload_n 0, 1) := by decide +kernel
theorem dL_1156 : decode code 1156 = .ok (.iload_n 3, 1) := by decide +kernel
theorem dL_1157 : decode code 1157 = .ok (.iconst 1, 1) := by decide +kernel
theorem dL_1158 : decode code 1158 = .ok (.iadd, 1) := by decide +kernel
theorem dL_1159 : decode code 1159 = .ok (.iaload, 1) := by decide +kernel
theorem dL_1160 : decode code 1160 = .ok (.aload_n 0, 1) := by decide +kernel
theorem dL_1161 : decode code 1161 = .ok (.iload_n 3, 1) := by decide +kernel
theorem dL_1162 : decode code 1162 = .ok (.iconst 2, 1) := by decide +kernel
theorem dL_1163 : decode code 1163 = .ok (.iadd, 1) := by decide +kernel
theorem dL_1164 : decode code 1164 = .ok (.iaload, 1) := by decide +kernel
theorem dL_1165 : decode code 1165 = .ok (.invokevirtual 179, 3) := by decide +kernel
theorem dL_1168 : decode code 1168 = .ok (.aload_n 2, 1) := by decide +kernel
theorem dL_1169 : decode code 1169 = .ok (.aload_n 0, 1) := by decide +kernel
theorem dL_1170 : decode code 1170 = .ok (.iload_n 3, 1) := by decide +kernel
theorem dL_1171 : decode code 1171 = .ok (.iconst 1, 1) := by decide +kernel
theorem dL_1172 : decode code 1172 = .ok (.iadd, 1) := by decide +kernel
theorem dL_1173 : decode code 1173 = .ok (.iaload, 1) := by decide +kernel
theorem dL_1174 : decode code 1174 = .ok (.aload_n 0, 1) := by decide +kernel
theorem dL_1175 : decode code 1175 = .ok (.iload_n 3, 1) := by decide +kernel
theorem dL_1176 : decode code 1176 = .ok (.iconst 2, 1) := by decide +kernel
theorem dL_1177 : decode code 1177 = .ok (.iadd, 1) := by decide +kernel
theorem dL_1178 : decode code 1178 = .ok (.iaload, 1) := by decide +kernel
theorem dL_1179 : decode code 1179 = .ok (.invokevirtual 182, 3) := by decide +kernel
theorem dL_1182 : decode code 1182 = .ok (.if_icmp .eq 127, 3) := by decide +kernel
theorem dL_1185 : decode code 1185 = .ok (.iconst 0, 1) := by decide +kernel
theorem dL_1186 : decode code 1186 = .ok (.ireturn, 1) := by decide +kernel
theorem dL_1187 : decode code 1187 = .ok (.aload_n 1, 1) := by decide +kernel
theorem dL_1188 : decode code 1188 = .ok (.aload_n 0, 1) := by decide +kernel
theorem dL_1189 : decode code 1189 = .ok (.iload_n 3, 1) := by decide +kernel
theorem dL_1190 : decode code 1190 = .ok (.iconst 1, 1) := by decide +kernel
theorem dL_1191 : decode code 1191 = .ok (.iadd, 1) := by decide +kernel
theorem dL_1192 : decode code 1192 = .ok (.iaload, 1) := by decide +kernel
theorem dL_1193 : decode code 1193 = .ok (.aload_n 0, 1) := by decide +kernel
theorem dL_1194 : decode code 1194 = .ok (.iload_n 3, 1) := by decide +kernel
theorem dL_1195 : decode code 1195 = .ok (.iconst 2, 1) := by decide +kernel
theorem dL_1196 : decode code 1196 = .ok (.iadd, 1) := by decide +kernel
theorem dL_1197 : decode code 1197 = .ok (.iaload, 1) := by decide +kernel
theorem dL_1198 : decode code 1198 = .ok (.invokevirtual 183, 3) := by decide +kernel
theorem dL_1201 : decode code 1201 = .ok (.aload_n 2, 1) := by decide +kernel
theorem dL_1202 : decode code 1202 = .ok (.aload_n 0, 1) := by decide +kernel
theorem dL_1203 : decode code 1203 = .ok (.iload_n 3, 1) := by decide +kernel
theorem dL_1204 : decode code 1204 = .ok (.iconst 1, 1) := by decide +kernel
theorem dL_1205 : decode code 1205 = .ok (.iadd, 1) := by decide +kernel
theorem dL_1206 : decode code 1206 = .ok (.iaload, 1) := by decide +kernel
theorem dL_1207 : decode code 1207 = .ok (.aload_n 0, 1) := by decide +kernel
theorem dL_1208 : decode code 1208 = .ok (.iload_n 3, 1) := by decide +kernel
theorem dL_1209 : decode code 1209 = .ok (.iconst 2, 1) := by decide +kernel
theorem dL_1210 : decode code 1210 = .ok (.iadd, 1) := by decide +kernel
theorem dL_1211 : decode code 1211 = .ok (.iaload, 1) := by decide +kernel
theorem dL_1212 : decode code 1212 = .ok (.invokevirtual 186, 3) := by decide +kernel
theorem dL_1215 : decode code 1215 = .ok (.if_icmp .eq 94, 3) := by decide +kernel
theorem dL_1218 : decode code 1218 = .ok (.iconst 0, 1) := by decide +kernel
theorem dL_1219 : decode code 1219 = .ok (.ireturn, 1) := by decide +kernel
theorem dL_1220 : decode code 1220 = .ok (.aload_n 1, 1) := by decide +kernel
theorem dL_1221 : decode code 1221 = .ok (.aload_n 0, 1) := by decide +kernel
theorem dL_1222 : decode code 1222 = .ok (.iload_n 3, 1) := by decide +kernel
theorem dL_1223 : decode code 1223 = .ok (.iconst 1, 1) := by decide +kernel
theorem dL_1224 : decode code 1224 = .ok (.iadd, 1) := by decide +kernel
theorem dL_1225 : decode code 1225 = .ok (.iaload, 1) := by decide +kernel
theorem dL_1226 : decode code 1226 = .ok (.invokevirtual 187, 3) := by decide +kernel
theorem dL_1229 : decode code 1229 = .ok (.aload_n 2, 1) := by decide +kernel
theorem dL_1230 : decode code 1230 = .ok (.aload_n 0, 1) := by decide +kernel
theorem dL_1231 : decode code 1231 = .ok (.iload_n 3, 1) := by decide +kernel
theorem dL_1232 : decode code 1232 = .ok (.iconst 1, 1) := by decide +kernel
theorem dL_1233 : decode code 1233 = .ok (.iadd, 1) := by decide +kernel
theorem dL_1234 : decode code 1234 = .ok (.iaload, 1) := by decide +kernel
theorem dL_1235 : decode code 1235 = .ok (.invokevirtual 190, 3) := by decide +kernel
theorem dL_1238 : decode code 1238 = .ok (.if_icmp .eq 71, 3) := by decide +kernel
theorem dL_1241 : decode code 1241 = .ok (.iconst 0, 1) := by decide +kernel
theorem dL_1242 : decode code 1242 = .ok (.ireturn, 1) := by decide +kernel
theorem dL_1243 : decode code 1243 = .ok (.aload_n 1, 1) := by decide +kernel
theorem dL_1244 : decode code 1244 = .ok (.aload_n 0, 1) := by decide +kernel
theorem dL_1245 : decode code 1245 = .ok (.iload_n 3, 1) := by decide +kernel
theorem dL_1246 : decode code 1246 = .ok (.iconst 1, 1) := by decide +kernel
theorem dL_1247 : decode code 1247 = .ok (.iadd, 1) := by decide +kernel
theorem dL_1248 : decode code 1248 = .ok (.iaload, 1) := by decide +kernel
theorem dL_1249 : decode code 1249 = .ok (.aload_n 0, 1) := by decide +kernel
theorem dL_1250 : decode code 1250 = .ok (.iload_n 3, 1) := by decide +kernel
theorem dL_1251 : decode code 1251 = .ok (.iconst 2, 1) := by decide +kernel
theorem dL_1252 : decode code 1252 = .ok (.iadd, 1) := by decide +kernel
theorem dL_1253 : decode code 1253 = .ok (.iaload, 1) := by decide +kernel
theorem dL_1254 : decode code 1254 = .ok (.invokevirtual 191, 3) := by decide +kernel
theorem dL_1257 : decode code 1257 = .ok (.aload_n 2, 1) := by decide +kernel
theorem dL_1258 : decode code 1258 = .ok (.aload_n 0, 1) := by decide +kernel
theorem dL_1259 : decode code 1259 = .ok (.iload_n 3, 1) := by decide +kernel
theorem dL_1260 : decode code 1260 = .ok (.iconst 1, 1) := by decide +kernel
theorem dL_1261 : decode code 1261 = .ok (.iadd, 1) := by decide +kernel
theorem dL_1262 : decode code 1262 = .ok (.iaload, 1) := by decide +kernel
theorem dL_1263 : decode code 1263 = .ok (.aload_n 0, 1) := by decide +kernel
theorem dL_1264 : decode code 1264 = .ok (.iload_n 3, 1) := by decide +kernel
theorem dL_1265 : decode code 1265 = .ok (.iconst 2, 1) := by decide +kernel
theorem dL_1266 : decode code 1266 = .ok (.iadd, 1) := by decide +kernel
theorem dL_1267 : decode code 1267 = .ok (.iaload, 1) := by decide +kernel
theorem dL_1268 : decode code 1268 = .ok (.invokevirtual 194, 3) := by decide +kernel
theorem dL_1271 : decode code 1271 = .ok (.if_icmp .eq 38, 3) := by decide +kernel
theorem dL_1274 : decode code 1274 = .ok (.iconst 0, 1) := by decide +kernel
theorem dL_1275 : decode code 1275 = .ok (.ireturn, 1) := by decide +kernel
theorem dL_1276 : decode code 1276 = .ok (.aload_n 1, 1) := by decide +kernel
theorem dL_1277 : decode code 1277 = .ok (.aload_n 0, 1) := by decide +kernel
theorem dL_1278 : decode code 1278 = .ok (.iload_n 3, 1) := by decide +kernel
theorem dL_1279 : decode code 1279 = .ok (.iconst 1, 1) := by decide +kernel
theorem dL_1280 : decode code 1280 = .ok (.iadd, 1) := by decide +kernel
theorem dL_1281 : decode code 1281 = .ok (.iaload, 1) := by decide +kernel
theorem dL_1282 : decode code 1282 = .ok (.aload_n 0, 1) := by decide +kernel
theorem dL_1283 : decode code 1283 = .ok (.iload_n 3, 1) := by decide +kernel
theorem dL_1284 : decode code 1284 = .ok (.iconst 2, 1) := by decide +kernel
theorem dL_1285 : decode code 1285 = .ok (.iadd, 1) := by decide +kernel
theorem dL_1286 : decode code 1286 = .ok (.iaload, 1) := by decide +kernel
theorem dL_1287 : decode code 1287 = .ok (.invokevirtual 195, 3) := by decide +kernel
theorem dL_1290 : decode code 1290 = .ok (.aload_n 2, 1) := by decide +kernel
theorem dL_1291 : decode code 1291 = .ok (.aload_n 0, 1) := by decide +kernel
theorem dL_1292 : decode code 1292 = .ok (.iload_n 3, 1) := by decide +kernel
theorem dL_1293 : decode code 1293 = .ok (.iconst 1, 1) := by decide +kernel
theorem dL_1294 : decode code 1294 = .ok (.iadd, 1) := by decide +kernel
theorem dL_1295 : decode code 1295 = .ok (.iaload, 1) := by decide +kernel
theorem dL_1296 : decode code 1296 = .ok (.aload_n 0, 1) := by decide +kernel
theorem dL_1297 : decode code 1297 = .ok (.iload_n 3, 1) := by decide +kernel
theorem dL_1298 : decode code 1298 = .ok (.iconst 2, 1) := by decide +kernel
theorem dL_1299 : decode code 1299 = .ok (.iadd, 1) := by decide +kernel
theorem dL_1300 : decode code 1300 = .ok (.iaload, 1) := by decide +kernel
theorem dL_1301 : decode code 1301 = .ok (.invokevirtual 198, 3) := by decide +kernel
theorem dL_1304 : decode code 1304 = .ok (.if_icmp .eq 5, 3) := by decide +kernel
theorem dL_1307 : decode code 1307 = .ok (.iconst 0, 1) := by decide +kernel
theorem dL_1308 : decode code 1308 = .ok (.ireturn, 1) := by decide +kernel
theorem dL_1309 : decode code 1309 = .ok (.iinc 3 6, 3) := by decide +kernel
theorem dL_1312 : decode code 1312 = .ok (.goto (-1294), 3) := by decide +kernel
theorem dL_1315 : decode code 1315 = .ok (.iconst 1, 1) := by decide +kernel
theorem dL_1316 : decode code 1316 = .ok (.ireturn, 1) := by decide +kernel
end
