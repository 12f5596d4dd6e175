section
/-- a private method of a class that the tables say can be made, by its rows of tables_1 -/
def lw_okq (q : MethodName × Nat) : Prop := (q.1.cls ≠ "java/lang/invoke/MethodHandle" ∧ q.1.cls ≠ "java/lang/invoke/VarHandle") ∧ Cond.instantiable q.1.cls q.2 ∈ tables_1 ∧ Cond.privateMethod q.1 ∈ tables_1 ∧ Cond.instanceMethod q.1 ∈ tables_1
theorem lw_p0 : lw_okq (⟨"RamStation", "keepState", "()V"⟩, 11) := ⟨⟨by decide +kernel, by decide +kernel⟩, List.mem_of_getElem? (i := 14) (by decide +kernel), List.mem_of_getElem? (i := 328) (by decide +kernel), List.mem_of_getElem? (i := 329) (by decide +kernel)⟩
theorem lw_p1 : lw_okq (⟨"RamStation", "tickStation", "()I"⟩, 11) := ⟨⟨by decide +kernel, by decide +kernel⟩, List.mem_of_getElem? (i := 14) (by decide +kernel), List.mem_of_getElem? (i := 408) (by decide +kernel), List.mem_of_getElem? (i := 409) (by decide +kernel)⟩
theorem lw_p2 : lw_okq (⟨"RamStation", "noteIncidents", "(I)V"⟩, 11) := ⟨⟨by decide +kernel, by decide +kernel⟩, List.mem_of_getElem? (i := 14) (by decide +kernel), List.mem_of_getElem? (i := 466) (by decide +kernel), List.mem_of_getElem? (i := 467) (by decide +kernel)⟩
theorem lw_p3 : lw_okq (⟨"RamStation", "perform", "(I)I"⟩, 11) := ⟨⟨by decide +kernel, by decide +kernel⟩, List.mem_of_getElem? (i := 14) (by decide +kernel), List.mem_of_getElem? (i := 523) (by decide +kernel), List.mem_of_getElem? (i := 524) (by decide +kernel)⟩
theorem lw_p4 : lw_okq (⟨"RamStation", "valveKindOf", "(I)I"⟩, 11) := ⟨⟨by decide +kernel, by decide +kernel⟩, List.mem_of_getElem? (i := 14) (by decide +kernel), List.mem_of_getElem? (i := 535) (by decide +kernel), List.mem_of_getElem? (i := 536) (by decide +kernel)⟩
theorem lw_p5 : lw_okq (⟨"RamStation", "tickTrial", "()V"⟩, 11) := ⟨⟨by decide +kernel, by decide +kernel⟩, List.mem_of_getElem? (i := 14) (by decide +kernel), List.mem_of_getElem? (i := 663) (by decide +kernel), List.mem_of_getElem? (i := 664) (by decide +kernel)⟩
theorem lw_p6 : lw_okq (⟨"RamStation", "trialDelivery", "(I)I"⟩, 11) := ⟨⟨by decide +kernel, by decide +kernel⟩, List.mem_of_getElem? (i := 14) (by decide +kernel), List.mem_of_getElem? (i := 672) (by decide +kernel), List.mem_of_getElem? (i := 673) (by decide +kernel)⟩
theorem lw_p7 : lw_okq (⟨"RamStation", "ticksFromSlamLikeLast", "()I"⟩, 11) := ⟨⟨by decide +kernel, by decide +kernel⟩, List.mem_of_getElem? (i := 14) (by decide +kernel), List.mem_of_getElem? (i := 690) (by decide +kernel), List.mem_of_getElem? (i := 691) (by decide +kernel)⟩
theorem lw_p8 : lw_okq (⟨"RamStation", "deliveryFromRest", "(LRamStation$Pump;III)I"⟩, 11) := ⟨⟨by decide +kernel, by decide +kernel⟩, List.mem_of_getElem? (i := 14) (by decide +kernel), List.mem_of_getElem? (i := 698) (by decide +kernel), List.mem_of_getElem? (i := 699) (by decide +kernel)⟩
theorem lw_p9 : lw_okq (⟨"RamStationModel", "record", "()V"⟩, 19) := ⟨⟨by decide +kernel, by decide +kernel⟩, List.mem_of_getElem? (i := 706) (by decide +kernel), List.mem_of_getElem? (i := 781) (by decide +kernel), List.mem_of_getElem? (i := 782) (by decide +kernel)⟩
theorem lw_p10 : lw_okq (⟨"RamStationModel", "valveRefused", "(III)I"⟩, 19) := ⟨⟨by decide +kernel, by decide +kernel⟩, List.mem_of_getElem? (i := 706) (by decide +kernel), List.mem_of_getElem? (i := 792) (by decide +kernel), List.mem_of_getElem? (i := 793) (by decide +kernel)⟩
theorem lw_p11 : lw_okq (⟨"RamStationModel", "isPump", "(I)Z"⟩, 19) := ⟨⟨by decide +kernel, by decide +kernel⟩, List.mem_of_getElem? (i := 706) (by decide +kernel), List.mem_of_getElem? (i := 796) (by decide +kernel), List.mem_of_getElem? (i := 797) (by decide +kernel)⟩
theorem lw_p12 : lw_okq (⟨"RamStationModel", "valveNow", "(III)I"⟩, 19) := ⟨⟨by decide +kernel, by decide +kernel⟩, List.mem_of_getElem? (i := 706) (by decide +kernel), List.mem_of_getElem? (i := 800) (by decide +kernel), List.mem_of_getElem? (i := 801) (by decide +kernel)⟩
theorem lw_p13 : lw_okq (⟨"RamStationModel", "fill", "(I)V"⟩, 19) := ⟨⟨by decide +kernel, by decide +kernel⟩, List.mem_of_getElem? (i := 706) (by decide +kernel), List.mem_of_getElem? (i := 808) (by decide +kernel), List.mem_of_getElem? (i := 809) (by decide +kernel)⟩
theorem lw_p14 : lw_okq (⟨"RamStationModel", "inflowNow", "(I)I"⟩, 19) := ⟨⟨by decide +kernel, by decide +kernel⟩, List.mem_of_getElem? (i := 706) (by decide +kernel), List.mem_of_getElem? (i := 816) (by decide +kernel), List.mem_of_getElem? (i := 817) (by decide +kernel)⟩
theorem lw_p15 : lw_okq (⟨"RamStationModel", "runRefused", "(II)I"⟩, 19) := ⟨⟨by decide +kernel, by decide +kernel⟩, List.mem_of_getElem? (i := 706) (by decide +kernel), List.mem_of_getElem? (i := 824) (by decide +kernel), List.mem_of_getElem? (i := 825) (by decide +kernel)⟩
def lw_privs_1 : List (MethodName × Nat) := [(⟨"RamStation", "keepState", "()V"⟩, 11), (⟨"RamStation", "tickStation", "()I"⟩, 11), (⟨"RamStation", "noteIncidents", "(I)V"⟩, 11), (⟨"RamStation", "perform", "(I)I"⟩, 11), (⟨"RamStation", "valveKindOf", "(I)I"⟩, 11), (⟨"RamStation", "tickTrial", "()V"⟩, 11), (⟨"RamStation", "trialDelivery", "(I)I"⟩, 11), (⟨"RamStation", "ticksFromSlamLikeLast", "()I"⟩, 11), (⟨"RamStation", "deliveryFromRest", "(LRamStation$Pump;III)I"⟩, 11), (⟨"RamStationModel", "record", "()V"⟩, 19), (⟨"RamStationModel", "valveRefused", "(III)I"⟩, 19), (⟨"RamStationModel", "isPump", "(I)Z"⟩, 19), (⟨"RamStationModel", "valveNow", "(III)I"⟩, 19), (⟨"RamStationModel", "fill", "(I)V"⟩, 19), (⟨"RamStationModel", "inflowNow", "(I)I"⟩, 19), (⟨"RamStationModel", "runRefused", "(II)I"⟩, 19)]
theorem lw_r1 : ∀ q ∈ lw_privs_1, lw_okq q := List.forall_mem_cons.mpr ⟨lw_p0, List.forall_mem_cons.mpr ⟨lw_p1, List.forall_mem_cons.mpr ⟨lw_p2, List.forall_mem_cons.mpr ⟨lw_p3, List.forall_mem_cons.mpr ⟨lw_p4, List.forall_mem_cons.mpr ⟨lw_p5, List.forall_mem_cons.mpr ⟨lw_p6, List.forall_mem_cons.mpr ⟨lw_p7, List.forall_mem_cons.mpr ⟨lw_p8, List.forall_mem_cons.mpr ⟨lw_p9, List.forall_mem_cons.mpr ⟨lw_p10, List.forall_mem_cons.mpr ⟨lw_p11, List.forall_mem_cons.mpr ⟨lw_p12, List.forall_mem_cons.mpr ⟨lw_p13, List.forall_mem_cons.mpr ⟨lw_p14, List.forall_mem_cons.mpr ⟨lw_p15, fun _ h => absurd h List.not_mem_nil⟩⟩⟩⟩⟩⟩⟩⟩⟩⟩⟩⟩⟩⟩⟩⟩
theorem lw_p16 : lw_okq (⟨"RamStationModel", "startNow", "(I)I"⟩, 19) := ⟨⟨by decide +kernel, by decide +kernel⟩, List.mem_of_getElem? (i := 706) (by decide +kernel), List.mem_of_getElem? (i := 828) (by decide +kernel), List.mem_of_getElem? (i := 829) (by decide +kernel)⟩
theorem lw_p17 : lw_okq (⟨"RamStationModel", "running", "()I"⟩, 19) := ⟨⟨by decide +kernel, by decide +kernel⟩, List.mem_of_getElem? (i := 706) (by decide +kernel), List.mem_of_getElem? (i := 832) (by decide +kernel), List.mem_of_getElem? (i := 833) (by decide +kernel)⟩
theorem lw_p18 : lw_okq (⟨"RamStationModel", "stopNow", "(I)I"⟩, 19) := ⟨⟨by decide +kernel, by decide +kernel⟩, List.mem_of_getElem? (i := 706) (by decide +kernel), List.mem_of_getElem? (i := 840) (by decide +kernel), List.mem_of_getElem? (i := 841) (by decide +kernel)⟩
theorem lw_p19 : lw_okq (⟨"RamStationModel", "open", "(I)V"⟩, 19) := ⟨⟨by decide +kernel, by decide +kernel⟩, List.mem_of_getElem? (i := 706) (by decide +kernel), List.mem_of_getElem? (i := 844) (by decide +kernel), List.mem_of_getElem? (i := 845) (by decide +kernel)⟩
theorem lw_p20 : lw_okq (⟨"RamStationModel", "tankRefused", "(I)I"⟩, 19) := ⟨⟨by decide +kernel, by decide +kernel⟩, List.mem_of_getElem? (i := 706) (by decide +kernel), List.mem_of_getElem? (i := 852) (by decide +kernel), List.mem_of_getElem? (i := 853) (by decide +kernel)⟩
theorem lw_p21 : lw_okq (⟨"RamStationModel", "tankNow", "(I)I"⟩, 19) := ⟨⟨by decide +kernel, by decide +kernel⟩, List.mem_of_getElem? (i := 706) (by decide +kernel), List.mem_of_getElem? (i := 856) (by decide +kernel), List.mem_of_getElem? (i := 857) (by decide +kernel)⟩
theorem lw_p22 : lw_okq (⟨"RamStationModel", "passRefused", "(I)I"⟩, 19) := ⟨⟨by decide +kernel, by decide +kernel⟩, List.mem_of_getElem? (i := 706) (by decide +kernel), List.mem_of_getElem? (i := 864) (by decide +kernel), List.mem_of_getElem? (i := 865) (by decide +kernel)⟩
theorem lw_p23 : lw_okq (⟨"RamStationModel", "passNow", "(I)I"⟩, 19) := ⟨⟨by decide +kernel, by decide +kernel⟩, List.mem_of_getElem? (i := 706) (by decide +kernel), List.mem_of_getElem? (i := 868) (by decide +kernel), List.mem_of_getElem? (i := 869) (by decide +kernel)⟩
theorem lw_p24 : lw_okq (⟨"RamStationModel", "tick", "(II)V"⟩, 19) := ⟨⟨by decide +kernel, by decide +kernel⟩, List.mem_of_getElem? (i := 706) (by decide +kernel), List.mem_of_getElem? (i := 872) (by decide +kernel), List.mem_of_getElem? (i := 873) (by decide +kernel)⟩
theorem lw_p25 : lw_okq (⟨"RamStationModel", "incident", "(II)V"⟩, 19) := ⟨⟨by decide +kernel, by decide +kernel⟩, List.mem_of_getElem? (i := 706) (by decide +kernel), List.mem_of_getElem? (i := 876) (by decide +kernel), List.mem_of_getElem? (i := 877) (by decide +kernel)⟩
theorem lw_p26 : lw_okq (⟨"RamStationModel", "gain", "(III)V"⟩, 19) := ⟨⟨by decide +kernel, by decide +kernel⟩, List.mem_of_getElem? (i := 706) (by decide +kernel), List.mem_of_getElem? (i := 880) (by decide +kernel), List.mem_of_getElem? (i := 881) (by decide +kernel)⟩
theorem lw_p27 : lw_okq (⟨"RamStationModel", "slamsBy", "(I)Z"⟩, 19) := ⟨⟨by decide +kernel, by decide +kernel⟩, List.mem_of_getElem? (i := 706) (by decide +kernel), List.mem_of_getElem? (i := 885) (by decide +kernel), List.mem_of_getElem? (i := 886) (by decide +kernel)⟩
theorem lw_p28 : lw_okq (⟨"RamStationModel", "slam", "(II)V"⟩, 19) := ⟨⟨by decide +kernel, by decide +kernel⟩, List.mem_of_getElem? (i := 706) (by decide +kernel), List.mem_of_getElem? (i := 889) (by decide +kernel), List.mem_of_getElem? (i := 890) (by decide +kernel)⟩
theorem lw_p29 : lw_okq (⟨"RamStationModel", "addInterval", "(I)V"⟩, 19) := ⟨⟨by decide +kernel, by decide +kernel⟩, List.mem_of_getElem? (i := 706) (by decide +kernel), List.mem_of_getElem? (i := 893) (by decide +kernel), List.mem_of_getElem? (i := 894) (by decide +kernel)⟩
theorem lw_p30 : lw_okq (⟨"RamStationModel", "leastSpace", "(I)I"⟩, 19) := ⟨⟨by decide +kernel, by decide +kernel⟩, List.mem_of_getElem? (i := 706) (by decide +kernel), List.mem_of_getElem? (i := 897) (by decide +kernel), List.mem_of_getElem? (i := 898) (by decide +kernel)⟩
theorem lw_p31 : lw_okq (⟨"RamStationModel", "push", "(III)V"⟩, 19) := ⟨⟨by decide +kernel, by decide +kernel⟩, List.mem_of_getElem? (i := 706) (by decide +kernel), List.mem_of_getElem? (i := 901) (by decide +kernel), List.mem_of_getElem? (i := 902) (by decide +kernel)⟩
def lw_privs_2 : List (MethodName × Nat) := [(⟨"RamStationModel", "startNow", "(I)I"⟩, 19), (⟨"RamStationModel", "running", "()I"⟩, 19), (⟨"RamStationModel", "stopNow", "(I)I"⟩, 19), (⟨"RamStationModel", "open", "(I)V"⟩, 19), (⟨"RamStationModel", "tankRefused", "(I)I"⟩, 19), (⟨"RamStationModel", "tankNow", "(I)I"⟩, 19), (⟨"RamStationModel", "passRefused", "(I)I"⟩, 19), (⟨"RamStationModel", "passNow", "(I)I"⟩, 19), (⟨"RamStationModel", "tick", "(II)V"⟩, 19), (⟨"RamStationModel", "incident", "(II)V"⟩, 19), (⟨"RamStationModel", "gain", "(III)V"⟩, 19), (⟨"RamStationModel", "slamsBy", "(I)Z"⟩, 19), (⟨"RamStationModel", "slam", "(II)V"⟩, 19), (⟨"RamStationModel", "addInterval", "(I)V"⟩, 19), (⟨"RamStationModel", "leastSpace", "(I)I"⟩, 19), (⟨"RamStationModel", "push", "(III)V"⟩, 19)]
theorem lw_r2 : ∀ q ∈ lw_privs_2, lw_okq q := List.forall_mem_cons.mpr ⟨lw_p16, List.forall_mem_cons.mpr ⟨lw_p17, List.forall_mem_cons.mpr ⟨lw_p18, List.forall_mem_cons.mpr ⟨lw_p19, List.forall_mem_cons.mpr ⟨lw_p20, List.forall_mem_cons.mpr ⟨lw_p21, List.forall_mem_cons.mpr ⟨lw_p22, List.forall_mem_cons.mpr ⟨lw_p23, List.forall_mem_cons.mpr ⟨lw_p24, List.forall_mem_cons.mpr ⟨lw_p25, List.forall_mem_cons.mpr ⟨lw_p26, List.forall_mem_cons.mpr ⟨lw_p27, List.forall_mem_cons.mpr ⟨lw_p28, List.forall_mem_cons.mpr ⟨lw_p29, List.forall_mem_cons.mpr ⟨lw_p30, List.forall_mem_cons.mpr ⟨lw_p31, fun _ h => absurd h List.not_mem_nil⟩⟩⟩⟩⟩⟩⟩⟩⟩⟩⟩⟩⟩⟩⟩⟩
theorem lw_p32 : lw_okq (⟨"RamStationModel", "head", "(I)I"⟩, 19) := ⟨⟨by decide +kernel, by decide +kernel⟩, List.mem_of_getElem? (i := 706) (by decide +kernel), List.mem_of_getElem? (i := 905) (by decide +kernel), List.mem_of_getElem? (i := 906) (by decide +kernel)⟩
theorem lw_p33 : lw_okq (⟨"RamStationModel", "deliver", "(II)V"⟩, 19) := ⟨⟨by decide +kernel, by decide +kernel⟩, List.mem_of_getElem? (i := 706) (by decide +kernel), List.mem_of_getElem? (i := 909) (by decide +kernel), List.mem_of_getElem? (i := 910) (by decide +kernel)⟩
theorem lw_p34 : lw_okq (⟨"RamStationModel", "addTrace", "(I)V"⟩, 19) := ⟨⟨by decide +kernel, by decide +kernel⟩, List.mem_of_getElem? (i := 706) (by decide +kernel), List.mem_of_getElem? (i := 913) (by decide +kernel), List.mem_of_getElem? (i := 914) (by decide +kernel)⟩
theorem lw_p35 : lw_okq (⟨"RamStationModel", "check", "()I"⟩, 19) := ⟨⟨by decide +kernel, by decide +kernel⟩, List.mem_of_getElem? (i := 706) (by decide +kernel), List.mem_of_getElem? (i := 929) (by decide +kernel), List.mem_of_getElem? (i := 930) (by decide +kernel)⟩
theorem lw_p36 : lw_okq (⟨"RamStationModel", "readCommand", "()V"⟩, 19) := ⟨⟨by decide +kernel, by decide +kernel⟩, List.mem_of_getElem? (i := 706) (by decide +kernel), List.mem_of_getElem? (i := 933) (by decide +kernel), List.mem_of_getElem? (i := 934) (by decide +kernel)⟩
theorem lw_p37 : lw_okq (⟨"RamStationModel", "digit", "()I"⟩, 19) := ⟨⟨by decide +kernel, by decide +kernel⟩, List.mem_of_getElem? (i := 706) (by decide +kernel), List.mem_of_getElem? (i := 937) (by decide +kernel), List.mem_of_getElem? (i := 938) (by decide +kernel)⟩
theorem lw_p38 : lw_okq (⟨"RamStationModel", "isDigit", "()Z"⟩, 19) := ⟨⟨by decide +kernel, by decide +kernel⟩, List.mem_of_getElem? (i := 706) (by decide +kernel), List.mem_of_getElem? (i := 941) (by decide +kernel), List.mem_of_getElem? (i := 942) (by decide +kernel)⟩
theorem lw_p39 : lw_okq (⟨"RamStationModel", "sign", "(I)V"⟩, 19) := ⟨⟨by decide +kernel, by decide +kernel⟩, List.mem_of_getElem? (i := 706) (by decide +kernel), List.mem_of_getElem? (i := 945) (by decide +kernel), List.mem_of_getElem? (i := 946) (by decide +kernel)⟩
theorem lw_p40 : lw_okq (⟨"RamStationModel", "number", "()I"⟩, 19) := ⟨⟨by decide +kernel, by decide +kernel⟩, List.mem_of_getElem? (i := 706) (by decide +kernel), List.mem_of_getElem? (i := 949) (by decide +kernel), List.mem_of_getElem? (i := 950) (by decide +kernel)⟩
theorem lw_p41 : lw_okq (⟨"RamStationModel", "perform", "()I"⟩, 19) := ⟨⟨by decide +kernel, by decide +kernel⟩, List.mem_of_getElem? (i := 706) (by decide +kernel), List.mem_of_getElem? (i := 957) (by decide +kernel), List.mem_of_getElem? (i := 958) (by decide +kernel)⟩
theorem lw_p42 : lw_okq (⟨"RamStationModel", "place", "(I)I"⟩, 19) := ⟨⟨by decide +kernel, by decide +kernel⟩, List.mem_of_getElem? (i := 706) (by decide +kernel), List.mem_of_getElem? (i := 989) (by decide +kernel), List.mem_of_getElem? (i := 990) (by decide +kernel)⟩
theorem lw_p43 : lw_okq (⟨"RamStationModel", "told", "(II)I"⟩, 19) := ⟨⟨by decide +kernel, by decide +kernel⟩, List.mem_of_getElem? (i := 706) (by decide +kernel), List.mem_of_getElem? (i := 1009) (by decide +kernel), List.mem_of_getElem? (i := 1010) (by decide +kernel)⟩
theorem lw_p44 : lw_okq (⟨"RamStationModel", "kept", "(IIII)I"⟩, 19) := ⟨⟨by decide +kernel, by decide +kernel⟩, List.mem_of_getElem? (i := 706) (by decide +kernel), List.mem_of_getElem? (i := 1061) (by decide +kernel), List.mem_of_getElem? (i := 1062) (by decide +kernel)⟩
theorem lw_p45 : lw_okq (⟨"RamStationModel", "efficiencyOf", "(I)I"⟩, 19) := ⟨⟨by decide +kernel, by decide +kernel⟩, List.mem_of_getElem? (i := 706) (by decide +kernel), List.mem_of_getElem? (i := 1073) (by decide +kernel), List.mem_of_getElem? (i := 1074) (by decide +kernel)⟩
theorem lw_p46 : lw_okq (⟨"RamStationModel", "beginTrial", "(IZ)V"⟩, 19) := ⟨⟨by decide +kernel, by decide +kernel⟩, List.mem_of_getElem? (i := 706) (by decide +kernel), List.mem_of_getElem? (i := 1086) (by decide +kernel), List.mem_of_getElem? (i := 1087) (by decide +kernel)⟩
theorem lw_p47 : lw_okq (⟨"RamStationModel", "trialRefused", "(III)I"⟩, 19) := ⟨⟨by decide +kernel, by decide +kernel⟩, List.mem_of_getElem? (i := 706) (by decide +kernel), List.mem_of_getElem? (i := 1094) (by decide +kernel), List.mem_of_getElem? (i := 1095) (by decide +kernel)⟩
def lw_privs_3 : List (MethodName × Nat) := [(⟨"RamStationModel", "head", "(I)I"⟩, 19), (⟨"RamStationModel", "deliver", "(II)V"⟩, 19), (⟨"RamStationModel", "addTrace", "(I)V"⟩, 19), (⟨"RamStationModel", "check", "()I"⟩, 19), (⟨"RamStationModel", "readCommand", "()V"⟩, 19), (⟨"RamStationModel", "digit", "()I"⟩, 19), (⟨"RamStationModel", "isDigit", "()Z"⟩, 19), (⟨"RamStationModel", "sign", "(I)V"⟩, 19), (⟨"RamStationModel", "number", "()I"⟩, 19), (⟨"RamStationModel", "perform", "()I"⟩, 19), (⟨"RamStationModel", "place", "(I)I"⟩, 19), (⟨"RamStationModel", "told", "(II)I"⟩, 19), (⟨"RamStationModel", "kept", "(IIII)I"⟩, 19), (⟨"RamStationModel", "efficiencyOf", "(I)I"⟩, 19), (⟨"RamStationModel", "beginTrial", "(IZ)V"⟩, 19), (⟨"RamStationModel", "trialRefused", "(III)I"⟩, 19)]
theorem lw_r3 : ∀ q ∈ lw_privs_3, lw_okq q := List.forall_mem_cons.mpr ⟨lw_p32, List.forall_mem_cons.mpr ⟨lw_p33, List.forall_mem_cons.mpr ⟨lw_p34, List.forall_mem_cons.mpr ⟨lw_p35, List.forall_mem_cons.mpr ⟨lw_p36, List.forall_mem_cons.mpr ⟨lw_p37, List.forall_mem_cons.mpr ⟨lw_p38, List.forall_mem_cons.mpr ⟨lw_p39, List.forall_mem_cons.mpr ⟨lw_p40, List.forall_mem_cons.mpr ⟨lw_p41, List.forall_mem_cons.mpr ⟨lw_p42, List.forall_mem_cons.mpr ⟨lw_p43, List.forall_mem_cons.mpr ⟨lw_p44, List.forall_mem_cons.mpr ⟨lw_p45, List.forall_mem_cons.mpr ⟨lw_p46, List.forall_mem_cons.mpr ⟨lw_p47, fun _ h => absurd h List.not_mem_nil⟩⟩⟩⟩⟩⟩⟩⟩⟩⟩⟩⟩⟩⟩⟩⟩
theorem lw_p48 : lw_okq (⟨"RamStationModel", "goOn", "(I)V"⟩, 19) := ⟨⟨by decide +kernel, by decide +kernel⟩, List.mem_of_getElem? (i := 706) (by decide +kernel), List.mem_of_getElem? (i := 1098) (by decide +kernel), List.mem_of_getElem? (i := 1099) (by decide +kernel)⟩
theorem lw_p49 : lw_okq (⟨"RamStationModel", "best", "(IIII)I"⟩, 19) := ⟨⟨by decide +kernel, by decide +kernel⟩, List.mem_of_getElem? (i := 706) (by decide +kernel), List.mem_of_getElem? (i := 1114) (by decide +kernel), List.mem_of_getElem? (i := 1115) (by decide +kernel)⟩
def lw_privs_4 : List (MethodName × Nat) := [(⟨"RamStationModel", "goOn", "(I)V"⟩, 19), (⟨"RamStationModel", "best", "(IIII)I"⟩, 19)]
theorem lw_r4 : ∀ q ∈ lw_privs_4, lw_okq q := List.forall_mem_cons.mpr ⟨lw_p48, List.forall_mem_cons.mpr ⟨lw_p49, fun _ h => absurd h List.not_mem_nil⟩⟩
def lw_privs : List (MethodName × Nat) := lw_privs_1 ++ (lw_privs_2 ++ (lw_privs_3 ++ (lw_privs_4)))
def lw_tbl : List Cond := k2_sels lw_privs ++ tables_1
theorem lw_privs_ok : ∀ q ∈ lw_privs, lw_okq q := by
  show ∀ q ∈ lw_privs_1 ++ (lw_privs_2 ++ (lw_privs_3 ++ (lw_privs_4))), lw_okq q
  exact List.forall_mem_append.mpr ⟨lw_r1, List.forall_mem_append.mpr ⟨lw_r2, List.forall_mem_append.mpr ⟨lw_r3, lw_r4⟩⟩⟩

/-- the words of the tables that stay good at any call -/
def TB : List Cond := lw_tbl.filter goodWord
theorem tb_of {w : Cond} (h : w ∈ lw_tbl) (g : goodWord w = true) : w ∈ TB := List.mem_filter.mpr ⟨h, g⟩
theorem tb_good {w : Cond} (h : w ∈ TB) : (w.onTables && w.keeps) = true ∨ ∃ ty, w = .arrayClass ty := good_of_word (List.mem_filter.mp h).2
/-- the words of a method: its code first, then all -/
def wsy (y : MethodName) (c : ByteArray) (n : Nat) (r : Option FieldType) : List Cond := .code y c n r :: TB
theorem wsy_good {y z : MethodName} {c d : ByteArray} {n k : Nat} {r q : Option FieldType} (h : Cond.code z d k q ∈ TB) : GoodIn (wsy y c n r) (wsy z d k q) := by
  intro w hw
  rcases List.mem_cons.mp hw with rfl | hw
  · exact ⟨List.mem_cons_of_mem _ h, tb_good h⟩
  · exact ⟨List.mem_cons_of_mem _ hw, tb_good hw⟩
theorem tb_goodIn {z : MethodName} {d : ByteArray} {k : Nat} {q : Option FieldType} (h : Cond.code z d k q ∈ TB) : GoodIn TB (wsy z d k q) := by
  intro w hw
  rcases List.mem_cons.mp hw with rfl | hw
  · exact ⟨h, tb_good h⟩
  · exact ⟨hw, tb_good hw⟩
end
section
abbrev RX0 : String := "RamStation$Chamber"
def TX0 : u_T := fun k => match k with
  | 0 => ("RamStation$Chamber", "volume", "I", false)
  | 1 => ("RamStation$Chamber", "leastSpace", "I", false)
  | 2 => ("RamStation$Chamber", "snifter", "Z", false)
  | 3 => ("RamStation$Chamber", "water", "I", false)
  | _ => ("RamStation$Chamber", "air", "I", false)
def tyX0 : Nat → FieldType := fun k => match k with
  | 0 => .int
  | 1 => .int
  | 2 => .boolean
  | 3 => .int
  | _ => .int
theorem nmX0 : ∀ a, a < 5 → ∀ b, b < 5 → a ≠ b → (TX0 a).2.1 ≠ (TX0 b).2.1 := by decide +kernel
theorem tyX0_ok : ∀ k, k < 5 → parseFieldDescriptor (TX0 k).2.2.1 = some (tyX0 k) := by decide +kernel
abbrev RX1 : String := "RamStation$CommandText"
def TX1 : u_T := fun k => match k with
  | 0 => ("RamStation$CommandText", "signs", "[C", true)
  | _ => ("RamStation$CommandText", "length", "I", false)
def tyX1 : Nat → FieldType := fun k => match k with
  | 0 => .array .char
  | _ => .int
theorem nmX1 : ∀ a, a < 2 → ∀ b, b < 2 → a ≠ b → (TX1 a).2.1 ≠ (TX1 b).2.1 := by decide +kernel
theorem tyX1_ok : ∀ k, k < 2 → parseFieldDescriptor (TX1 k).2.2.1 = some (tyX1 k) := by decide +kernel
abbrev RX2 : String := "RamStation$Counters"
def TX2 : u_T := fun k => match k with
  | 0 => ("RamStation$Counters", "beats", "I", false)
  | 1 => ("RamStation$Counters", "wasted", "I", false)
  | 2 => ("RamStation$Counters", "relieved", "I", false)
  | 3 => ("RamStation$Counters", "lifted", "I", false)
  | 4 => ("RamStation$Counters", "overflowed", "I", false)
  | _ => ("RamStation$Counters", "starved", "I", false)
def tyX2 : Nat → FieldType := fun k => match k with
  | 0 => .int
  | 1 => .int
  | 2 => .int
  | 3 => .int
  | 4 => .int
  | _ => .int
theorem nmX2 : ∀ a, a < 6 → ∀ b, b < 6 → a ≠ b → (TX2 a).2.1 ≠ (TX2 b).2.1 := by decide +kernel
theorem tyX2_ok : ∀ k, k < 6 → parseFieldDescriptor (TX2 k).2.2.1 = some (tyX2 k) := by decide +kernel
abbrev RX3 : String := "RamStation$IncidentLog"
def TX3 : u_T := fun k => match k with
  | 0 => ("RamStation$IncidentLog", "total", "I", false)
  | 1 => ("RamStation$IncidentLog", "kinds", "LRamStation$Ring;", true)
  | 2 => ("RamStation$IncidentLog", "pumpNumbers", "LRamStation$Ring;", true)
  | _ => ("RamStation$IncidentLog", "times", "LRamStation$Ring;", true)
def tyX3 : Nat → FieldType := fun k => match k with
  | 0 => .int
  | 1 => .object "RamStation$Ring"
  | 2 => .object "RamStation$Ring"
  | _ => .object "RamStation$Ring"
theorem nmX3 : ∀ a, a < 4 → ∀ b, b < 4 → a ≠ b → (TX3 a).2.1 ≠ (TX3 b).2.1 := by decide +kernel
theorem tyX3_ok : ∀ k, k < 4 → parseFieldDescriptor (TX3 k).2.2.1 = some (tyX3 k) := by decide +kernel
abbrev RX4 : String := "RamStation$Pump"
def TX4 : u_T := fun k => match k with
  | 0 => ("RamStation$Pump", "supplyHead", "I", false)
  | 1 => ("RamStation$Pump", "driveLength", "I", false)
  | 2 => ("RamStation$Pump", "area", "I", false)
  | 3 => ("RamStation$Pump", "friction", "I", false)
  | 4 => ("RamStation$Pump", "lift", "I", false)
  | 5 => ("RamStation$Pump", "running", "Z", false)
  | 6 => ("RamStation$Pump", "speed", "I", false)
  | 7 => ("RamStation$Pump", "closed", "Z", false)
  | 8 => ("RamStation$Pump", "openTicks", "I", false)
  | 9 => ("RamStation$Pump", "valveKind", "I", false)
  | 10 => ("RamStation$Pump", "setting", "I", false)
  | 11 => ("RamStation$Pump", "tank", "I", false)
  | 12 => ("RamStation$Pump", "intervalStart", "I", false)
  | 13 => ("RamStation$Pump", "chamber", "LRamStation$Chamber;", true)
  | 14 => ("RamStation$Pump", "counters", "LRamStation$Counters;", true)
  | 15 => ("RamStation$Pump", "intervals", "LRamStation$Ring;", true)
  | _ => ("RamStation$Pump", "trace", "LRamStation$Ring;", true)
def tyX4 : Nat → FieldType := fun k => match k with
  | 0 => .int
  | 1 => .int
  | 2 => .int
  | 3 => .int
  | 4 => .int
  | 5 => .boolean
  | 6 => .int
  | 7 => .boolean
  | 8 => .int
  | 9 => .int
  | 10 => .int
  | 11 => .int
  | 12 => .int
  | 13 => .object "RamStation$Chamber"
  | 14 => .object "RamStation$Counters"
  | 15 => .object "RamStation$Ring"
  | _ => .object "RamStation$Ring"
theorem nmX4 : ∀ a, a < 17 → ∀ b, b < 17 → a ≠ b → (TX4 a).2.1 ≠ (TX4 b).2.1 := by decide +kernel
theorem tyX4_ok : ∀ k, k < 17 → parseFieldDescriptor (TX4 k).2.2.1 = some (tyX4 k) := by decide +kernel
abbrev RX5 : String := "RamStation$Report"
def TX5 : u_T := fun k => match k with
  | 0 => ("RamStation$Report", "drawn", "I", false)
  | 1 => ("RamStation$Report", "delivered", "I", false)
  | 2 => ("RamStation$Report", "slammed", "Z", false)
  | 3 => ("RamStation$Report", "firstIncident", "I", false)
  | _ => ("RamStation$Report", "overflowing", "Z", false)
def tyX5 : Nat → FieldType := fun k => match k with
  | 0 => .int
  | 1 => .int
  | 2 => .boolean
  | 3 => .int
  | _ => .boolean
theorem nmX5 : ∀ a, a < 5 → ∀ b, b < 5 → a ≠ b → (TX5 a).2.1 ≠ (TX5 b).2.1 := by decide +kernel
theorem tyX5_ok : ∀ k, k < 5 → parseFieldDescriptor (TX5 k).2.2.1 = some (tyX5 k) := by decide +kernel
abbrev RX6 : String := "RamStation$Ring"
def TX6 : u_T := fun k => match k with
  | 0 => ("RamStation$Ring", "places", "[I", true)
  | 1 => ("RamStation$Ring", "count", "I", false)
  | _ => ("RamStation$Ring", "next", "I", false)
def tyX6 : Nat → FieldType := fun k => match k with
  | 0 => .array .int
  | 1 => .int
  | _ => .int
theorem nmX6 : ∀ a, a < 3 → ∀ b, b < 3 → a ≠ b → (TX6 a).2.1 ≠ (TX6 b).2.1 := by decide +kernel
theorem tyX6_ok : ∀ k, k < 3 → parseFieldDescriptor (TX6 k).2.2.1 = some (tyX6 k) := by decide +kernel
abbrev RX7 : String := "RamStation$State"
def TX7 : u_T := fun k => match k with
  | 0 => ("RamStation$State", "time", "I", false)
  | 1 => ("RamStation$State", "basin", "I", false)
  | 2 => ("RamStation$State", "spilled", "I", false)
  | 3 => ("RamStation$State", "inflow", "I", false)
  | 4 => ("RamStation$State", "pumpCount", "I", false)
  | _ => ("RamStation$State", "pumps", "[LRamStation$Pump;", true)
def tyX7 : Nat → FieldType := fun k => match k with
  | 0 => .int
  | 1 => .int
  | 2 => .int
  | 3 => .int
  | 4 => .int
  | _ => .array (.object "RamStation$Pump")
theorem nmX7 : ∀ a, a < 6 → ∀ b, b < 6 → a ≠ b → (TX7 a).2.1 ≠ (TX7 b).2.1 := by decide +kernel
theorem tyX7_ok : ∀ k, k < 6 → parseFieldDescriptor (TX7 k).2.2.1 = some (tyX7 k) := by decide +kernel
abbrev RX8 : String := "RamStation"
def TX8 : u_T := fun k => match k with
  | 0 => ("RamStation", "state", "LRamStation$State;", true)
  | 1 => ("RamStation", "recorded", "[LRamStation$State;", true)
  | 2 => ("RamStation", "recordedCount", "I", false)
  | 3 => ("RamStation", "recordNext", "I", false)
  | 4 => ("RamStation", "executing", "Z", false)
  | 5 => ("RamStation", "lastFailure", "I", false)
  | 6 => ("RamStation", "text", "LRamStation$CommandText;", true)
  | 7 => ("RamStation", "log", "LRamStation$IncidentLog;", true)
  | 8 => ("RamStation", "report", "LRamStation$Report;", true)
  | 9 => ("RamStation", "trial", "LRamStation$Pump;", true)
  | _ => ("RamStation", "slamMarks", "[J", true)
def tyX8 : Nat → FieldType := fun k => match k with
  | 0 => .object "RamStation$State"
  | 1 => .array (.object "RamStation$State")
  | 2 => .int
  | 3 => .int
  | 4 => .boolean
  | 5 => .int
  | 6 => .object "RamStation$CommandText"
  | 7 => .object "RamStation$IncidentLog"
  | 8 => .object "RamStation$Report"
  | 9 => .object "RamStation$Pump"
  | _ => .array .long
theorem nmX8 : ∀ a, a < 11 → ∀ b, b < 11 → a ≠ b → (TX8 a).2.1 ≠ (TX8 b).2.1 := by decide +kernel
theorem tyX8_ok : ∀ k, k < 11 → parseFieldDescriptor (TX8 k).2.2.1 = some (tyX8 k) := by decide +kernel
abbrev RX9 : String := "RamStationModel"
def TX9 : u_T := fun k => match k with
  | 0 => ("RamStationModel", "now", "[I", true)
  | 1 => ("RamStationModel", "past", "[I", true)
  | 2 => ("RamStationModel", "recorded", "I", false)
  | 3 => ("RamStationModel", "kinds", "[I", true)
  | 4 => ("RamStationModel", "pumpsOf", "[I", true)
  | 5 => ("RamStationModel", "times", "[I", true)
  | 6 => ("RamStationModel", "happened", "I", false)
  | 7 => ("RamStationModel", "slammed", "Z", false)
  | 8 => ("RamStationModel", "drawn", "I", false)
  | 9 => ("RamStationModel", "delivered", "I", false)
  | 10 => ("RamStationModel", "text", "[I", true)
  | 11 => ("RamStationModel", "texted", "I", false)
  | 12 => ("RamStationModel", "failed", "I", false)
  | 13 => ("RamStationModel", "at0", "I", false)
  | 14 => ("RamStationModel", "wrong", "Z", false)
  | 15 => ("RamStationModel", "letter", "I", false)
  | 16 => ("RamStationModel", "which", "I", false)
  | 17 => ("RamStationModel", "value", "I", false)
  | _ => ("RamStationModel", "slams", "[I", true)
def tyX9 : Nat → FieldType := fun k => match k with
  | 0 => .array .int
  | 1 => .array .int
  | 2 => .int
  | 3 => .array .int
  | 4 => .array .int
  | 5 => .array .int
  | 6 => .int
  | 7 => .boolean
  | 8 => .int
  | 9 => .int
  | 10 => .array .int
  | 11 => .int
  | 12 => .int
  | 13 => .int
  | 14 => .boolean
  | 15 => .int
  | 16 => .int
  | 17 => .int
  | _ => .array .int
theorem nmX9 : ∀ a, a < 19 → ∀ b, b < 19 → a ≠ b → (TX9 a).2.1 ≠ (TX9 b).2.1 := by decide +kernel
theorem tyX9_ok : ∀ k, k < 19 → parseFieldDescriptor (TX9 k).2.2.1 = some (tyX9 k) := by decide +kernel
abbrev cX0_init : ByteArray := prog_2_method_1_code
abbrev yX0_init : MethodName := ⟨"RamStation$Chamber", "<init>", "()V"⟩
abbrev cX0_renew : ByteArray := prog_2_method_2_code
abbrev yX0_renew : MethodName := ⟨"RamStation$Chamber", "renew", "(IZ)V"⟩
abbrev cX0_copyFrom : ByteArray := prog_2_method_3_code
abbrev yX0_copyFrom : MethodName := ⟨"RamStation$Chamber", "copyFrom", "(LRamStation$Chamber;)V"⟩
abbrev cX0_head : ByteArray := prog_2_method_4_code
abbrev yX0_head : MethodName := ⟨"RamStation$Chamber", "head", "()I"⟩
abbrev cX0_take : ByteArray := prog_2_method_5_code
abbrev yX0_take : MethodName := ⟨"RamStation$Chamber", "take", "(I)I"⟩
abbrev cX0_changeAir : ByteArray := prog_2_method_6_code
abbrev yX0_changeAir : MethodName := ⟨"RamStation$Chamber", "changeAir", "()V"⟩
abbrev cX1_init : ByteArray := prog_3_method_1_code
abbrev yX1_init : MethodName := ⟨"RamStation$CommandText", "<init>", "()V"⟩
abbrev cX1_signAt : ByteArray := prog_3_method_2_code
abbrev yX1_signAt : MethodName := ⟨"RamStation$CommandText", "signAt", "(I)C"⟩
abbrev cX1_commandStartsAt : ByteArray := prog_3_method_3_code
abbrev yX1_commandStartsAt : MethodName := ⟨"RamStation$CommandText", "commandStartsAt", "(I)Z"⟩
abbrev cX1_numberAt : ByteArray := prog_3_method_4_code
abbrev yX1_numberAt : MethodName := ⟨"RamStation$CommandText", "numberAt", "(I)I"⟩
abbrev cX1_firstError : ByteArray := prog_3_method_5_code
abbrev yX1_firstError : MethodName := ⟨"RamStation$CommandText", "firstError", "()I"⟩
abbrev cX1_isDigit : ByteArray := prog_3_method_6_code
abbrev yX1_isDigit : MethodName := ⟨"RamStation$CommandText", "isDigit", "(C)Z"⟩
abbrev cX1_mayEnd : ByteArray := prog_3_method_7_code
abbrev yX1_mayEnd : MethodName := ⟨"RamStation$CommandText", "mayEnd", "(I)Z"⟩
abbrev cX1_placeAfter : ByteArray := prog_3_method_8_code
abbrev yX1_placeAfter : MethodName := ⟨"RamStation$CommandText", "placeAfter", "(IC)I"⟩
abbrev cX1_placeAfterLetter : ByteArray := prog_3_method_9_code
abbrev yX1_placeAfterLetter : MethodName := ⟨"RamStation$CommandText", "placeAfterLetter", "(C)I"⟩
abbrev cX1_placeAfterDigit : ByteArray := prog_3_method_10_code
abbrev yX1_placeAfterDigit : MethodName := ⟨"RamStation$CommandText", "placeAfterDigit", "(I)I"⟩
abbrev cX2_init : ByteArray := prog_4_method_1_code
abbrev yX2_init : MethodName := ⟨"RamStation$Counters", "<init>", "()V"⟩
abbrev cX2_copyFrom : ByteArray := prog_4_method_2_code
abbrev yX2_copyFrom : MethodName := ⟨"RamStation$Counters", "copyFrom", "(LRamStation$Counters;)V"⟩
abbrev cX3_init : ByteArray := prog_5_method_1_code
abbrev yX3_init : MethodName := ⟨"RamStation$IncidentLog", "<init>", "()V"⟩
abbrev cX3_add : ByteArray := prog_5_method_2_code
abbrev yX3_add : MethodName := ⟨"RamStation$IncidentLog", "add", "(III)V"⟩
abbrev cX4_init : ByteArray := prog_6_method_1_code
abbrev yX4_init : MethodName := ⟨"RamStation$Pump", "<init>", "(IIIII)V"⟩
abbrev cX4_copyFrom : ByteArray := prog_6_method_2_code
abbrev yX4_copyFrom : MethodName := ⟨"RamStation$Pump", "copyFrom", "(LRamStation$Pump;)V"⟩
abbrev cX4_rest : ByteArray := prog_6_method_3_code
abbrev yX4_rest : MethodName := ⟨"RamStation$Pump", "rest", "()V"⟩
abbrev cX4_tick : ByteArray := prog_6_method_4_code
abbrev yX4_tick : MethodName := ⟨"RamStation$Pump", "tick", "(IILRamStation$Report;)V"⟩
abbrev cX4_gainSpeed : ByteArray := prog_6_method_5_code
abbrev yX4_gainSpeed : MethodName := ⟨"RamStation$Pump", "gainSpeed", "(I)V"⟩
abbrev cX4_speedFrom : ByteArray := prog_6_method_6_code
abbrev yX4_speedFrom : MethodName := ⟨"RamStation$Pump", "speedFrom", "(I)I"⟩
abbrev cX4_slamRuleHolds : ByteArray := prog_6_method_7_code
abbrev yX4_slamRuleHolds : MethodName := ⟨"RamStation$Pump", "slamRuleHolds", "()Z"⟩
abbrev cX4_slam : ByteArray := prog_6_method_8_code
abbrev yX4_slam : MethodName := ⟨"RamStation$Pump", "slam", "(ILRamStation$Report;)V"⟩
abbrev cX4_pushIntoChamber : ByteArray := prog_6_method_9_code
abbrev yX4_pushIntoChamber : MethodName := ⟨"RamStation$Pump", "pushIntoChamber", "(ILRamStation$Report;)V"⟩
abbrev cX4_deliver : ByteArray := prog_6_method_10_code
abbrev yX4_deliver : MethodName := ⟨"RamStation$Pump", "deliver", "(LRamStation$Report;)V"⟩
abbrev cX4_thousandths : ByteArray := prog_6_method_11_code
abbrev yX4_thousandths : MethodName := ⟨"RamStation$Pump", "thousandths", "()I"⟩
abbrev cX4_slamMark : ByteArray := prog_6_method_12_code
abbrev yX4_slamMark : MethodName := ⟨"RamStation$Pump", "slamMark", "()J"⟩
abbrev cX5_init : ByteArray := prog_7_method_1_code
abbrev yX5_init : MethodName := ⟨"RamStation$Report", "<init>", "()V"⟩
abbrev cX5_clear : ByteArray := prog_7_method_2_code
abbrev yX5_clear : MethodName := ⟨"RamStation$Report", "clear", "()V"⟩
abbrev cX6_init : ByteArray := prog_8_method_1_code
abbrev yX6_init : MethodName := ⟨"RamStation$Ring", "<init>", "(I)V"⟩
abbrev cX6_add : ByteArray := prog_8_method_2_code
abbrev yX6_add : MethodName := ⟨"RamStation$Ring", "add", "(I)V"⟩
abbrev cX6_latest : ByteArray := prog_8_method_3_code
abbrev yX6_latest : MethodName := ⟨"RamStation$Ring", "latest", "(I)I"⟩
abbrev cX6_copyFrom : ByteArray := prog_8_method_4_code
abbrev yX6_copyFrom : MethodName := ⟨"RamStation$Ring", "copyFrom", "(LRamStation$Ring;)V"⟩
abbrev cX7_init : ByteArray := prog_9_method_1_code
abbrev yX7_init : MethodName := ⟨"RamStation$State", "<init>", "()V"⟩
abbrev cX7_pumpAt : ByteArray := prog_9_method_2_code
abbrev yX7_pumpAt : MethodName := ⟨"RamStation$State", "pumpAt", "(I)LRamStation$Pump;"⟩
abbrev cX7_runningPumps : ByteArray := prog_9_method_3_code
abbrev yX7_runningPumps : MethodName := ⟨"RamStation$State", "runningPumps", "()I"⟩
abbrev cX7_fillBasin : ByteArray := prog_9_method_4_code
abbrev yX7_fillBasin : MethodName := ⟨"RamStation$State", "fillBasin", "(I)V"⟩
abbrev cX7_copyFrom : ByteArray := prog_9_method_5_code
abbrev yX7_copyFrom : MethodName := ⟨"RamStation$State", "copyFrom", "(LRamStation$State;)V"⟩
abbrev cX8_init : ByteArray := prog_1_method_1_code
abbrev yX8_init : MethodName := ⟨"RamStation", "<init>", "()V"⟩
abbrev cX8_addPump : ByteArray := prog_1_method_2_code
abbrev yX8_addPump : MethodName := ⟨"RamStation", "addPump", "(IIIII)I"⟩
abbrev cX8_setValve : ByteArray := prog_1_method_3_code
abbrev yX8_setValve : MethodName := ⟨"RamStation", "setValve", "(III)I"⟩
abbrev cX8_setChamber : ByteArray := prog_1_method_4_code
abbrev yX8_setChamber : MethodName := ⟨"RamStation", "setChamber", "(IIZ)I"⟩
abbrev cX8_setInflow : ByteArray := prog_1_method_5_code
abbrev yX8_setInflow : MethodName := ⟨"RamStation", "setInflow", "(I)I"⟩
abbrev cX8_start : ByteArray := prog_1_method_6_code
abbrev yX8_start : MethodName := ⟨"RamStation", "start", "(I)I"⟩
abbrev cX8_stop : ByteArray := prog_1_method_7_code
abbrev yX8_stop : MethodName := ⟨"RamStation", "stop", "(I)I"⟩
abbrev cX8_emptyTank : ByteArray := prog_1_method_8_code
abbrev yX8_emptyTank : MethodName := ⟨"RamStation", "emptyTank", "(I)I"⟩
abbrev cX8_pass : ByteArray := prog_1_method_9_code
abbrev yX8_pass : MethodName := ⟨"RamStation", "pass", "(I)I"⟩
abbrev cX8_undo : ByteArray := prog_1_method_10_code
abbrev yX8_undo : MethodName := ⟨"RamStation", "undo", "()I"⟩
abbrev cX8_type : ByteArray := prog_1_method_11_code
abbrev yX8_type : MethodName := ⟨"RamStation", "type", "(I)I"⟩
abbrev cX8_clearText : ByteArray := prog_1_method_12_code
abbrev yX8_clearText : MethodName := ⟨"RamStation", "clearText", "()I"⟩
abbrev cX8_syntaxError : ByteArray := prog_1_method_13_code
abbrev yX8_syntaxError : MethodName := ⟨"RamStation", "syntaxError", "()I"⟩
abbrev cX8_execute : ByteArray := prog_1_method_14_code
abbrev yX8_execute : MethodName := ⟨"RamStation", "execute", "()I"⟩
abbrev cX8_failure : ByteArray := prog_1_method_15_code
abbrev yX8_failure : MethodName := ⟨"RamStation", "failure", "()I"⟩
abbrev cX8_time : ByteArray := prog_1_method_16_code
abbrev yX8_time : MethodName := ⟨"RamStation", "time", "()I"⟩
abbrev cX8_basin : ByteArray := prog_1_method_17_code
abbrev yX8_basin : MethodName := ⟨"RamStation", "basin", "()I"⟩
abbrev cX8_spilled : ByteArray := prog_1_method_18_code
abbrev yX8_spilled : MethodName := ⟨"RamStation", "spilled", "()I"⟩
abbrev cX8_pumps : ByteArray := prog_1_method_19_code
abbrev yX8_pumps : MethodName := ⟨"RamStation", "pumps", "()I"⟩
abbrev cX8_incidents : ByteArray := prog_1_method_20_code
abbrev yX8_incidents : MethodName := ⟨"RamStation", "incidents", "()I"⟩
abbrev cX8_incidentKind : ByteArray := prog_1_method_21_code
abbrev yX8_incidentKind : MethodName := ⟨"RamStation", "incidentKind", "(I)I"⟩
abbrev cX8_incidentPump : ByteArray := prog_1_method_22_code
abbrev yX8_incidentPump : MethodName := ⟨"RamStation", "incidentPump", "(I)I"⟩
abbrev cX8_incidentTime : ByteArray := prog_1_method_23_code
abbrev yX8_incidentTime : MethodName := ⟨"RamStation", "incidentTime", "(I)I"⟩
abbrev cX8_phase : ByteArray := prog_1_method_24_code
abbrev yX8_phase : MethodName := ⟨"RamStation", "phase", "(I)I"⟩
abbrev cX8_speed : ByteArray := prog_1_method_25_code
abbrev yX8_speed : MethodName := ⟨"RamStation", "speed", "(I)I"⟩
abbrev cX8_openTicks : ByteArray := prog_1_method_26_code
abbrev yX8_openTicks : MethodName := ⟨"RamStation", "openTicks", "(I)I"⟩
abbrev cX8_chamberWater : ByteArray := prog_1_method_27_code
abbrev yX8_chamberWater : MethodName := ⟨"RamStation", "chamberWater", "(I)I"⟩
abbrev cX8_air : ByteArray := prog_1_method_28_code
abbrev yX8_air : MethodName := ⟨"RamStation", "air", "(I)I"⟩
abbrev cX8_chamberHead : ByteArray := prog_1_method_29_code
abbrev yX8_chamberHead : MethodName := ⟨"RamStation", "chamberHead", "(I)I"⟩
abbrev cX8_beats : ByteArray := prog_1_method_30_code
abbrev yX8_beats : MethodName := ⟨"RamStation", "beats", "(I)I"⟩
abbrev cX8_wasted : ByteArray := prog_1_method_31_code
abbrev yX8_wasted : MethodName := ⟨"RamStation", "wasted", "(I)I"⟩
abbrev cX8_relieved : ByteArray := prog_1_method_32_code
abbrev yX8_relieved : MethodName := ⟨"RamStation", "relieved", "(I)I"⟩
abbrev cX8_lifted : ByteArray := prog_1_method_33_code
abbrev yX8_lifted : MethodName := ⟨"RamStation", "lifted", "(I)I"⟩
abbrev cX8_overflowed : ByteArray := prog_1_method_34_code
abbrev yX8_overflowed : MethodName := ⟨"RamStation", "overflowed", "(I)I"⟩
abbrev cX8_starved : ByteArray := prog_1_method_35_code
abbrev yX8_starved : MethodName := ⟨"RamStation", "starved", "(I)I"⟩
abbrev cX8_tank : ByteArray := prog_1_method_36_code
abbrev yX8_tank : MethodName := ⟨"RamStation", "tank", "(I)I"⟩
abbrev cX8_interval : ByteArray := prog_1_method_37_code
abbrev yX8_interval : MethodName := ⟨"RamStation", "interval", "(II)I"⟩
abbrev cX8_trace : ByteArray := prog_1_method_38_code
abbrev yX8_trace : MethodName := ⟨"RamStation", "trace", "(II)I"⟩
abbrev cX8_efficiency : ByteArray := prog_1_method_39_code
abbrev yX8_efficiency : MethodName := ⟨"RamStation", "efficiency", "(I)I"⟩
abbrev cX8_bestPump : ByteArray := prog_1_method_40_code
abbrev yX8_bestPump : MethodName := ⟨"RamStation", "bestPump", "()I"⟩
abbrev cX8_ticksToSlam : ByteArray := prog_1_method_41_code
abbrev yX8_ticksToSlam : MethodName := ⟨"RamStation", "ticksToSlam", "(I)I"⟩
abbrev cX8_deliveredIn : ByteArray := prog_1_method_42_code
abbrev yX8_deliveredIn : MethodName := ⟨"RamStation", "deliveredIn", "(II)I"⟩
abbrev cX8_drawnIn : ByteArray := prog_1_method_43_code
abbrev yX8_drawnIn : MethodName := ⟨"RamStation", "drawnIn", "(II)I"⟩
abbrev cX8_period : ByteArray := prog_1_method_44_code
abbrev yX8_period : MethodName := ⟨"RamStation", "period", "(I)I"⟩
abbrev cX8_bestLength : ByteArray := prog_1_method_45_code
abbrev yX8_bestLength : MethodName := ⟨"RamStation", "bestLength", "(II)I"⟩
abbrev cX8_bestSetting : ByteArray := prog_1_method_46_code
abbrev yX8_bestSetting : MethodName := ⟨"RamStation", "bestSetting", "(II)I"⟩
abbrev cX8_outside : ByteArray := prog_1_method_47_code
abbrev yX8_outside : MethodName := ⟨"RamStation", "outside", "(III)Z"⟩
abbrev cX8_keepState : ByteArray := prog_1_method_48_code
abbrev yX8_keepState : MethodName := ⟨"RamStation", "keepState", "()V"⟩
abbrev cX8_tickStation : ByteArray := prog_1_method_49_code
abbrev yX8_tickStation : MethodName := ⟨"RamStation", "tickStation", "()I"⟩
abbrev cX8_noteIncidents : ByteArray := prog_1_method_50_code
abbrev yX8_noteIncidents : MethodName := ⟨"RamStation", "noteIncidents", "(I)V"⟩
abbrev cX8_perform : ByteArray := prog_1_method_51_code
abbrev yX8_perform : MethodName := ⟨"RamStation", "perform", "(I)I"⟩
abbrev cX8_valveKindOf : ByteArray := prog_1_method_52_code
abbrev yX8_valveKindOf : MethodName := ⟨"RamStation", "valveKindOf", "(I)I"⟩
abbrev cX8_tickTrial : ByteArray := prog_1_method_53_code
abbrev yX8_tickTrial : MethodName := ⟨"RamStation", "tickTrial", "()V"⟩
abbrev cX8_trialDelivery : ByteArray := prog_1_method_54_code
abbrev yX8_trialDelivery : MethodName := ⟨"RamStation", "trialDelivery", "(I)I"⟩
abbrev cX8_deliveryFromRest : ByteArray := prog_1_method_55_code
abbrev yX8_deliveryFromRest : MethodName := ⟨"RamStation", "deliveryFromRest", "(LRamStation$Pump;III)I"⟩
abbrev cX8_ticksFromSlamLikeLast : ByteArray := prog_1_method_56_code
abbrev yX8_ticksFromSlamLikeLast : MethodName := ⟨"RamStation", "ticksFromSlamLikeLast", "()I"⟩
abbrev cX9_init : ByteArray := prog_11_method_1_code
abbrev yX9_init : MethodName := ⟨"RamStationModel", "<init>", "()V"⟩
abbrev cX9_in : ByteArray := prog_11_method_3_code
abbrev yX9_in : MethodName := ⟨"RamStationModel", "in", "(III)Z"⟩
abbrev cX9_isPump : ByteArray := prog_11_method_4_code
abbrev yX9_isPump : MethodName := ⟨"RamStationModel", "isPump", "(I)Z"⟩
abbrev cX9_at : ByteArray := prog_11_method_5_code
abbrev yX9_at : MethodName := ⟨"RamStationModel", "at", "(I)I"⟩
abbrev cX9_running : ByteArray := prog_11_method_6_code
abbrev yX9_running : MethodName := ⟨"RamStationModel", "running", "()I"⟩
abbrev cX9_record : ByteArray := prog_11_method_7_code
abbrev yX9_record : MethodName := ⟨"RamStationModel", "record", "()V"⟩
abbrev cX9_undo : ByteArray := prog_11_method_8_code
abbrev yX9_undo : MethodName := ⟨"RamStationModel", "undo", "()I"⟩
abbrev cX9_incident : ByteArray := prog_11_method_9_code
abbrev yX9_incident : MethodName := ⟨"RamStationModel", "incident", "(II)V"⟩
abbrev cX9_place : ByteArray := prog_11_method_10_code
abbrev yX9_place : MethodName := ⟨"RamStationModel", "place", "(I)I"⟩
abbrev cX9_leastSpace : ByteArray := prog_11_method_11_code
abbrev yX9_leastSpace : MethodName := ⟨"RamStationModel", "leastSpace", "(I)I"⟩
abbrev cX9_head : ByteArray := prog_11_method_12_code
abbrev yX9_head : MethodName := ⟨"RamStationModel", "head", "(I)I"⟩
abbrev cX9_slamsBy : ByteArray := prog_11_method_13_code
abbrev yX9_slamsBy : MethodName := ⟨"RamStationModel", "slamsBy", "(I)Z"⟩
abbrev cX9_open : ByteArray := prog_11_method_14_code
abbrev yX9_open : MethodName := ⟨"RamStationModel", "open", "(I)V"⟩
abbrev cX9_addInterval : ByteArray := prog_11_method_15_code
abbrev yX9_addInterval : MethodName := ⟨"RamStationModel", "addInterval", "(I)V"⟩
abbrev cX9_addTrace : ByteArray := prog_11_method_16_code
abbrev yX9_addTrace : MethodName := ⟨"RamStationModel", "addTrace", "(I)V"⟩
abbrev cX9_slam : ByteArray := prog_11_method_17_code
abbrev yX9_slam : MethodName := ⟨"RamStationModel", "slam", "(II)V"⟩
abbrev cX9_gain : ByteArray := prog_11_method_18_code
abbrev yX9_gain : MethodName := ⟨"RamStationModel", "gain", "(III)V"⟩
abbrev cX9_push : ByteArray := prog_11_method_19_code
abbrev yX9_push : MethodName := ⟨"RamStationModel", "push", "(III)V"⟩
abbrev cX9_deliver : ByteArray := prog_11_method_20_code
abbrev yX9_deliver : MethodName := ⟨"RamStationModel", "deliver", "(II)V"⟩
abbrev cX9_tick : ByteArray := prog_11_method_21_code
abbrev yX9_tick : MethodName := ⟨"RamStationModel", "tick", "(II)V"⟩
abbrev cX9_fill : ByteArray := prog_11_method_22_code
abbrev yX9_fill : MethodName := ⟨"RamStationModel", "fill", "(I)V"⟩
abbrev cX9_passNow : ByteArray := prog_11_method_23_code
abbrev yX9_passNow : MethodName := ⟨"RamStationModel", "passNow", "(I)I"⟩
abbrev cX9_addPump : ByteArray := prog_11_method_24_code
abbrev yX9_addPump : MethodName := ⟨"RamStationModel", "addPump", "(IIIII)I"⟩
abbrev cX9_valveRefused : ByteArray := prog_11_method_25_code
abbrev yX9_valveRefused : MethodName := ⟨"RamStationModel", "valveRefused", "(III)I"⟩
abbrev cX9_valveNow : ByteArray := prog_11_method_26_code
abbrev yX9_valveNow : MethodName := ⟨"RamStationModel", "valveNow", "(III)I"⟩
abbrev cX9_setValve : ByteArray := prog_11_method_27_code
abbrev yX9_setValve : MethodName := ⟨"RamStationModel", "setValve", "(III)I"⟩
abbrev cX9_setChamber : ByteArray := prog_11_method_28_code
abbrev yX9_setChamber : MethodName := ⟨"RamStationModel", "setChamber", "(IIZ)I"⟩
abbrev cX9_inflowNow : ByteArray := prog_11_method_29_code
abbrev yX9_inflowNow : MethodName := ⟨"RamStationModel", "inflowNow", "(I)I"⟩
abbrev cX9_setInflow : ByteArray := prog_11_method_30_code
abbrev yX9_setInflow : MethodName := ⟨"RamStationModel", "setInflow", "(I)I"⟩
abbrev cX9_runRefused : ByteArray := prog_11_method_31_code
abbrev yX9_runRefused : MethodName := ⟨"RamStationModel", "runRefused", "(II)I"⟩
abbrev cX9_startNow : ByteArray := prog_11_method_32_code
abbrev yX9_startNow : MethodName := ⟨"RamStationModel", "startNow", "(I)I"⟩
abbrev cX9_start : ByteArray := prog_11_method_33_code
abbrev yX9_start : MethodName := ⟨"RamStationModel", "start", "(I)I"⟩
abbrev cX9_stopNow : ByteArray := prog_11_method_34_code
abbrev yX9_stopNow : MethodName := ⟨"RamStationModel", "stopNow", "(I)I"⟩
abbrev cX9_stop : ByteArray := prog_11_method_35_code
abbrev yX9_stop : MethodName := ⟨"RamStationModel", "stop", "(I)I"⟩
abbrev cX9_tankRefused : ByteArray := prog_11_method_36_code
abbrev yX9_tankRefused : MethodName := ⟨"RamStationModel", "tankRefused", "(I)I"⟩
abbrev cX9_tankNow : ByteArray := prog_11_method_37_code
abbrev yX9_tankNow : MethodName := ⟨"RamStationModel", "tankNow", "(I)I"⟩
abbrev cX9_emptyTank : ByteArray := prog_11_method_38_code
abbrev yX9_emptyTank : MethodName := ⟨"RamStationModel", "emptyTank", "(I)I"⟩
abbrev cX9_passRefused : ByteArray := prog_11_method_39_code
abbrev yX9_passRefused : MethodName := ⟨"RamStationModel", "passRefused", "(I)I"⟩
abbrev cX9_pass : ByteArray := prog_11_method_40_code
abbrev yX9_pass : MethodName := ⟨"RamStationModel", "pass", "(I)I"⟩
abbrev cX9_type : ByteArray := prog_11_method_41_code
abbrev yX9_type : MethodName := ⟨"RamStationModel", "type", "(I)I"⟩
abbrev cX9_clearText : ByteArray := prog_11_method_42_code
abbrev yX9_clearText : MethodName := ⟨"RamStationModel", "clearText", "()I"⟩
abbrev cX9_isDigit : ByteArray := prog_11_method_43_code
abbrev yX9_isDigit : MethodName := ⟨"RamStationModel", "isDigit", "()Z"⟩
abbrev cX9_digit : ByteArray := prog_11_method_44_code
abbrev yX9_digit : MethodName := ⟨"RamStationModel", "digit", "()I"⟩
abbrev cX9_number : ByteArray := prog_11_method_45_code
abbrev yX9_number : MethodName := ⟨"RamStationModel", "number", "()I"⟩
abbrev cX9_sign : ByteArray := prog_11_method_46_code
abbrev yX9_sign : MethodName := ⟨"RamStationModel", "sign", "(I)V"⟩
abbrev cX9_readCommand : ByteArray := prog_11_method_47_code
abbrev yX9_readCommand : MethodName := ⟨"RamStationModel", "readCommand", "()V"⟩
abbrev cX9_check : ByteArray := prog_11_method_48_code
abbrev yX9_check : MethodName := ⟨"RamStationModel", "check", "()I"⟩
abbrev cX9_syntaxError : ByteArray := prog_11_method_49_code
abbrev yX9_syntaxError : MethodName := ⟨"RamStationModel", "syntaxError", "()I"⟩
abbrev cX9_perform : ByteArray := prog_11_method_50_code
abbrev yX9_perform : MethodName := ⟨"RamStationModel", "perform", "()I"⟩
abbrev cX9_execute : ByteArray := prog_11_method_51_code
abbrev yX9_execute : MethodName := ⟨"RamStationModel", "execute", "()I"⟩
abbrev cX9_failure : ByteArray := prog_11_method_52_code
abbrev yX9_failure : MethodName := ⟨"RamStationModel", "failure", "()I"⟩
abbrev cX9_time : ByteArray := prog_11_method_53_code
abbrev yX9_time : MethodName := ⟨"RamStationModel", "time", "()I"⟩
abbrev cX9_basin : ByteArray := prog_11_method_54_code
abbrev yX9_basin : MethodName := ⟨"RamStationModel", "basin", "()I"⟩
abbrev cX9_spilled : ByteArray := prog_11_method_55_code
abbrev yX9_spilled : MethodName := ⟨"RamStationModel", "spilled", "()I"⟩
abbrev cX9_pumps : ByteArray := prog_11_method_56_code
abbrev yX9_pumps : MethodName := ⟨"RamStationModel", "pumps", "()I"⟩
abbrev cX9_incidents : ByteArray := prog_11_method_57_code
abbrev yX9_incidents : MethodName := ⟨"RamStationModel", "incidents", "()I"⟩
abbrev cX9_incidentKind : ByteArray := prog_11_method_58_code
abbrev yX9_incidentKind : MethodName := ⟨"RamStationModel", "incidentKind", "(I)I"⟩
abbrev cX9_incidentPump : ByteArray := prog_11_method_59_code
abbrev yX9_incidentPump : MethodName := ⟨"RamStationModel", "incidentPump", "(I)I"⟩
abbrev cX9_incidentTime : ByteArray := prog_11_method_60_code
abbrev yX9_incidentTime : MethodName := ⟨"RamStationModel", "incidentTime", "(I)I"⟩
abbrev cX9_told : ByteArray := prog_11_method_61_code
abbrev yX9_told : MethodName := ⟨"RamStationModel", "told", "(II)I"⟩
abbrev cX9_phase : ByteArray := prog_11_method_62_code
abbrev yX9_phase : MethodName := ⟨"RamStationModel", "phase", "(I)I"⟩
abbrev cX9_speed : ByteArray := prog_11_method_63_code
abbrev yX9_speed : MethodName := ⟨"RamStationModel", "speed", "(I)I"⟩
abbrev cX9_openTicks : ByteArray := prog_11_method_64_code
abbrev yX9_openTicks : MethodName := ⟨"RamStationModel", "openTicks", "(I)I"⟩
abbrev cX9_chamberWater : ByteArray := prog_11_method_65_code
abbrev yX9_chamberWater : MethodName := ⟨"RamStationModel", "chamberWater", "(I)I"⟩
abbrev cX9_air : ByteArray := prog_11_method_66_code
abbrev yX9_air : MethodName := ⟨"RamStationModel", "air", "(I)I"⟩
abbrev cX9_chamberHead : ByteArray := prog_11_method_67_code
abbrev yX9_chamberHead : MethodName := ⟨"RamStationModel", "chamberHead", "(I)I"⟩
abbrev cX9_beats : ByteArray := prog_11_method_68_code
abbrev yX9_beats : MethodName := ⟨"RamStationModel", "beats", "(I)I"⟩
abbrev cX9_wasted : ByteArray := prog_11_method_69_code
abbrev yX9_wasted : MethodName := ⟨"RamStationModel", "wasted", "(I)I"⟩
abbrev cX9_relieved : ByteArray := prog_11_method_70_code
abbrev yX9_relieved : MethodName := ⟨"RamStationModel", "relieved", "(I)I"⟩
abbrev cX9_lifted : ByteArray := prog_11_method_71_code
abbrev yX9_lifted : MethodName := ⟨"RamStationModel", "lifted", "(I)I"⟩
abbrev cX9_overflowed : ByteArray := prog_11_method_72_code
abbrev yX9_overflowed : MethodName := ⟨"RamStationModel", "overflowed", "(I)I"⟩
abbrev cX9_starved : ByteArray := prog_11_method_73_code
abbrev yX9_starved : MethodName := ⟨"RamStationModel", "starved", "(I)I"⟩
abbrev cX9_tank : ByteArray := prog_11_method_74_code
abbrev yX9_tank : MethodName := ⟨"RamStationModel", "tank", "(I)I"⟩
abbrev cX9_kept : ByteArray := prog_11_method_75_code
abbrev yX9_kept : MethodName := ⟨"RamStationModel", "kept", "(IIII)I"⟩
abbrev cX9_interval : ByteArray := prog_11_method_76_code
abbrev yX9_interval : MethodName := ⟨"RamStationModel", "interval", "(II)I"⟩
abbrev cX9_trace : ByteArray := prog_11_method_77_code
abbrev yX9_trace : MethodName := ⟨"RamStationModel", "trace", "(II)I"⟩
abbrev cX9_efficiencyOf : ByteArray := prog_11_method_78_code
abbrev yX9_efficiencyOf : MethodName := ⟨"RamStationModel", "efficiencyOf", "(I)I"⟩
abbrev cX9_efficiency : ByteArray := prog_11_method_79_code
abbrev yX9_efficiency : MethodName := ⟨"RamStationModel", "efficiency", "(I)I"⟩
abbrev cX9_bestPump : ByteArray := prog_11_method_80_code
abbrev yX9_bestPump : MethodName := ⟨"RamStationModel", "bestPump", "()I"⟩
abbrev cX9_beginTrial : ByteArray := prog_11_method_81_code
abbrev yX9_beginTrial : MethodName := ⟨"RamStationModel", "beginTrial", "(IZ)V"⟩
abbrev cX9_goOn : ByteArray := prog_11_method_82_code
abbrev yX9_goOn : MethodName := ⟨"RamStationModel", "goOn", "(I)V"⟩
abbrev cX9_ticksToSlam : ByteArray := prog_11_method_83_code
abbrev yX9_ticksToSlam : MethodName := ⟨"RamStationModel", "ticksToSlam", "(I)I"⟩
abbrev cX9_trialRefused : ByteArray := prog_11_method_84_code
abbrev yX9_trialRefused : MethodName := ⟨"RamStationModel", "trialRefused", "(III)I"⟩
abbrev cX9_deliveredIn : ByteArray := prog_11_method_85_code
abbrev yX9_deliveredIn : MethodName := ⟨"RamStationModel", "deliveredIn", "(II)I"⟩
abbrev cX9_drawnIn : ByteArray := prog_11_method_86_code
abbrev yX9_drawnIn : MethodName := ⟨"RamStationModel", "drawnIn", "(II)I"⟩
abbrev cX9_period : ByteArray := prog_11_method_87_code
abbrev yX9_period : MethodName := ⟨"RamStationModel", "period", "(I)I"⟩
abbrev cX9_best : ByteArray := prog_11_method_88_code
abbrev yX9_best : MethodName := ⟨"RamStationModel", "best", "(IIII)I"⟩
abbrev cX9_bestLength : ByteArray := prog_11_method_89_code
abbrev yX9_bestLength : MethodName := ⟨"RamStationModel", "bestLength", "(II)I"⟩
abbrev cX9_bestSetting : ByteArray := prog_11_method_90_code
abbrev yX9_bestSetting : MethodName := ⟨"RamStationModel", "bestSetting", "(II)I"⟩
abbrev RL : String := "RamStationLaw"
end
section
theorem w_50 : (Cond.initialized "RamStationLaw") ∈ TB := tb_of (List.mem_of_getElem? (i := 50) (by decide +kernel)) (by decide +kernel)
theorem w_51 : (Cond.initialized "RamStation") ∈ TB := tb_of (List.mem_of_getElem? (i := 51) (by decide +kernel)) (by decide +kernel)
theorem w_52 : (Cond.initialized "RamStation$State") ∈ TB := tb_of (List.mem_of_getElem? (i := 52) (by decide +kernel)) (by decide +kernel)
theorem w_53 : (Cond.initialized "RamStation$Pump") ∈ TB := tb_of (List.mem_of_getElem? (i := 53) (by decide +kernel)) (by decide +kernel)
theorem w_54 : (Cond.initialized "RamStation$Chamber") ∈ TB := tb_of (List.mem_of_getElem? (i := 54) (by decide +kernel)) (by decide +kernel)
theorem w_55 : (Cond.initialized "RamStation$Counters") ∈ TB := tb_of (List.mem_of_getElem? (i := 55) (by decide +kernel)) (by decide +kernel)
theorem w_56 : (Cond.initialized "RamStation$Ring") ∈ TB := tb_of (List.mem_of_getElem? (i := 56) (by decide +kernel)) (by decide +kernel)
theorem w_57 : (Cond.initialized "java/lang/Math") ∈ TB := tb_of (List.mem_of_getElem? (i := 57) (by decide +kernel)) (by decide +kernel)
theorem w_58 : (Cond.initialized "RamStation$CommandText") ∈ TB := tb_of (List.mem_of_getElem? (i := 58) (by decide +kernel)) (by decide +kernel)
theorem w_59 : (Cond.initialized "RamStation$IncidentLog") ∈ TB := tb_of (List.mem_of_getElem? (i := 59) (by decide +kernel)) (by decide +kernel)
theorem w_60 : (Cond.initialized "RamStation$Report") ∈ TB := tb_of (List.mem_of_getElem? (i := 60) (by decide +kernel)) (by decide +kernel)
theorem w_61 : (Cond.initialized "RamStationModel") ∈ TB := tb_of (List.mem_of_getElem? (i := 61) (by decide +kernel)) (by decide +kernel)
theorem w_62 : (Cond.initialized "java/lang/System") ∈ TB := tb_of (List.mem_of_getElem? (i := 62) (by decide +kernel)) (by decide +kernel)
theorem w_63 : (Cond.classLink "RamStationLaw" (7 : Nat) "RamStation") ∈ TB := tb_of (List.mem_of_getElem? (i := 63) (by decide +kernel)) (by decide +kernel)
theorem w_64 : (Cond.instantiable "RamStation" (11 : Nat)) ∈ TB := tb_of (List.mem_of_getElem? (i := 64) (by decide +kernel)) (by decide +kernel)
theorem w_65 : (Cond.methodLink "RamStationLaw" (9 : Nat) yX8_init) ∈ TB := tb_of (List.mem_of_getElem? (i := 65) (by decide +kernel)) (by decide +kernel)
theorem w_66 : (Cond.instanceMethod yX8_init) ∈ TB := tb_of (List.mem_of_getElem? (i := 66) (by decide +kernel)) (by decide +kernel)
theorem w_67 : (Cond.code yX8_init cX8_init (2 : Nat) (Option.none : Option FieldType)) ∈ TB := tb_of (List.mem_of_getElem? (i := 67) (by decide +kernel)) (by decide +kernel)
theorem w_68 : (Cond.methodLink "RamStation" (1 : Nat) ({ cls := "java/lang/Object", name := "<init>", desc := "()V" } : Jvm.MethodName)) ∈ TB := tb_of (List.mem_of_getElem? (i := 68) (by decide +kernel)) (by decide +kernel)
theorem w_69 : (Cond.instanceMethod ({ cls := "java/lang/Object", name := "<init>", desc := "()V" } : Jvm.MethodName)) ∈ TB := tb_of (List.mem_of_getElem? (i := 69) (by decide +kernel)) (by decide +kernel)
theorem w_70 : (Cond.code ({ cls := "java/lang/Object", name := "<init>", desc := "()V" } : Jvm.MethodName) object_method_1_code (1 : Nat) (Option.none : Option FieldType)) ∈ TB := tb_of (List.mem_of_getElem? (i := 70) (by decide +kernel)) (by decide +kernel)
theorem w_71 : (Cond.classLink "RamStation" (7 : Nat) "RamStation$State") ∈ TB := tb_of (List.mem_of_getElem? (i := 71) (by decide +kernel)) (by decide +kernel)
theorem w_72 : (Cond.instantiable "RamStation$State" (6 : Nat)) ∈ TB := tb_of (List.mem_of_getElem? (i := 72) (by decide +kernel)) (by decide +kernel)
theorem w_73 : (Cond.methodLink "RamStation" (9 : Nat) yX7_init) ∈ TB := tb_of (List.mem_of_getElem? (i := 73) (by decide +kernel)) (by decide +kernel)
theorem w_74 : (Cond.instanceMethod yX7_init) ∈ TB := tb_of (List.mem_of_getElem? (i := 74) (by decide +kernel)) (by decide +kernel)
theorem w_75 : (Cond.code yX7_init cX7_init (2 : Nat) (Option.none : Option FieldType)) ∈ TB := tb_of (List.mem_of_getElem? (i := 75) (by decide +kernel)) (by decide +kernel)
theorem w_76 : (Cond.methodLink "RamStation$State" (3 : Nat) ({ cls := "java/lang/Object", name := "<init>", desc := "()V" } : Jvm.MethodName)) ∈ TB := tb_of (List.mem_of_getElem? (i := 76) (by decide +kernel)) (by decide +kernel)
theorem w_77 : (Cond.classLink "RamStation$State" (18 : Nat) "RamStation$Pump") ∈ TB := tb_of (List.mem_of_getElem? (i := 77) (by decide +kernel)) (by decide +kernel)
theorem w_78 : (Cond.arrayOver (FieldType.object "RamStation$Pump")) ∈ lw_tbl := List.mem_of_getElem? (i := 78) (by decide +kernel)
theorem w_79 : (Cond.instantiable "RamStation$Pump" (17 : Nat)) ∈ TB := tb_of (List.mem_of_getElem? (i := 79) (by decide +kernel)) (by decide +kernel)
theorem w_80 : (Cond.methodLink "RamStation$State" (24 : Nat) yX4_init) ∈ TB := tb_of (List.mem_of_getElem? (i := 80) (by decide +kernel)) (by decide +kernel)
theorem w_81 : (Cond.instanceMethod yX4_init) ∈ TB := tb_of (List.mem_of_getElem? (i := 81) (by decide +kernel)) (by decide +kernel)
theorem w_82 : (Cond.code yX4_init cX4_init (6 : Nat) (Option.none : Option FieldType)) ∈ TB := tb_of (List.mem_of_getElem? (i := 82) (by decide +kernel)) (by decide +kernel)
theorem w_83 : (Cond.methodLink "RamStation$Pump" (3 : Nat) ({ cls := "java/lang/Object", name := "<init>", desc := "()V" } : Jvm.MethodName)) ∈ TB := tb_of (List.mem_of_getElem? (i := 83) (by decide +kernel)) (by decide +kernel)
theorem w_84 : (Cond.classLink "RamStation$Pump" (15 : Nat) "RamStation$Chamber") ∈ TB := tb_of (List.mem_of_getElem? (i := 84) (by decide +kernel)) (by decide +kernel)
theorem w_85 : (Cond.instantiable "RamStation$Chamber" (5 : Nat)) ∈ TB := tb_of (List.mem_of_getElem? (i := 85) (by decide +kernel)) (by decide +kernel)
theorem w_86 : (Cond.methodLinkNest "RamStation$Pump" (17 : Nat) yX0_init "RamStation") ∈ lw_tbl := List.mem_of_getElem? (i := 86) (by decide +kernel)
theorem w_87 : (Cond.instanceMethod yX0_init) ∈ TB := tb_of (List.mem_of_getElem? (i := 87) (by decide +kernel)) (by decide +kernel)
theorem w_88 : (Cond.code yX0_init cX0_init (1 : Nat) (Option.none : Option FieldType)) ∈ TB := tb_of (List.mem_of_getElem? (i := 88) (by decide +kernel)) (by decide +kernel)
theorem w_89 : (Cond.methodLink "RamStation$Chamber" (1 : Nat) ({ cls := "java/lang/Object", name := "<init>", desc := "()V" } : Jvm.MethodName)) ∈ TB := tb_of (List.mem_of_getElem? (i := 89) (by decide +kernel)) (by decide +kernel)
theorem w_90 : (Cond.fieldLink "RamStation$Chamber" (7 : Nat) "RamStation$Chamber" "volume" "I") ∈ TB := tb_of (List.mem_of_getElem? (i := 90) (by decide +kernel)) (by decide +kernel)
theorem w_91 : (Cond.fieldLink "RamStation$Chamber" (13 : Nat) "RamStation$Chamber" "leastSpace" "I") ∈ TB := tb_of (List.mem_of_getElem? (i := 91) (by decide +kernel)) (by decide +kernel)
theorem w_92 : (Cond.fieldLink "RamStation$Pump" (155 : Nat) "RamStation$Chamber" "leastSpace" "I") ∈ TB := tb_of (List.mem_of_getElem? (i := 92) (by decide +kernel)) (by decide +kernel)
theorem w_93 : (Cond.fieldLink "RamStation$Chamber" (19 : Nat) "RamStation$Chamber" "snifter" "Z") ∈ TB := tb_of (List.mem_of_getElem? (i := 93) (by decide +kernel)) (by decide +kernel)
theorem w_94 : (Cond.fieldLink "RamStation$Chamber" (23 : Nat) "RamStation$Chamber" "water" "I") ∈ TB := tb_of (List.mem_of_getElem? (i := 94) (by decide +kernel)) (by decide +kernel)
theorem w_95 : (Cond.fieldLink "RamStation" (90 : Nat) "RamStation$Chamber" "water" "I") ∈ TB := tb_of (List.mem_of_getElem? (i := 95) (by decide +kernel)) (by decide +kernel)
theorem w_96 : (Cond.fieldLink "RamStation$Pump" (168 : Nat) "RamStation$Chamber" "water" "I") ∈ TB := tb_of (List.mem_of_getElem? (i := 96) (by decide +kernel)) (by decide +kernel)
theorem w_97 : (Cond.fieldLink "RamStation$Chamber" (16 : Nat) "RamStation$Chamber" "air" "I") ∈ TB := tb_of (List.mem_of_getElem? (i := 97) (by decide +kernel)) (by decide +kernel)
theorem w_98 : (Cond.fieldLink "RamStation$Pump" (149 : Nat) "RamStation$Chamber" "air" "I") ∈ TB := tb_of (List.mem_of_getElem? (i := 98) (by decide +kernel)) (by decide +kernel)
theorem w_99 : (Cond.fieldLink "RamStation" (189 : Nat) "RamStation$Chamber" "air" "I") ∈ TB := tb_of (List.mem_of_getElem? (i := 99) (by decide +kernel)) (by decide +kernel)
theorem w_100 : (Cond.lays "RamStation$Chamber" "RamStation$Chamber" "volume" "I") ∈ TB := tb_of (List.mem_of_getElem? (i := 100) (by decide +kernel)) (by decide +kernel)
theorem w_102 : (Cond.lays "RamStation$Chamber" "RamStation$Chamber" "leastSpace" "I") ∈ TB := tb_of (List.mem_of_getElem? (i := 102) (by decide +kernel)) (by decide +kernel)
theorem w_104 : (Cond.lays "RamStation$Chamber" "RamStation$Chamber" "snifter" "Z") ∈ TB := tb_of (List.mem_of_getElem? (i := 104) (by decide +kernel)) (by decide +kernel)
theorem w_106 : (Cond.lays "RamStation$Chamber" "RamStation$Chamber" "water" "I") ∈ TB := tb_of (List.mem_of_getElem? (i := 106) (by decide +kernel)) (by decide +kernel)
theorem w_108 : (Cond.lays "RamStation$Chamber" "RamStation$Chamber" "air" "I") ∈ TB := tb_of (List.mem_of_getElem? (i := 108) (by decide +kernel)) (by decide +kernel)
theorem w_111 : (Cond.classLink "RamStation$Pump" (22 : Nat) "RamStation$Counters") ∈ TB := tb_of (List.mem_of_getElem? (i := 111) (by decide +kernel)) (by decide +kernel)
theorem w_112 : (Cond.instantiable "RamStation$Counters" (6 : Nat)) ∈ TB := tb_of (List.mem_of_getElem? (i := 112) (by decide +kernel)) (by decide +kernel)
theorem w_113 : (Cond.methodLinkNest "RamStation$Pump" (24 : Nat) yX2_init "RamStation") ∈ lw_tbl := List.mem_of_getElem? (i := 113) (by decide +kernel)
theorem w_114 : (Cond.instanceMethod yX2_init) ∈ TB := tb_of (List.mem_of_getElem? (i := 114) (by decide +kernel)) (by decide +kernel)
theorem w_115 : (Cond.code yX2_init cX2_init (1 : Nat) (Option.none : Option FieldType)) ∈ TB := tb_of (List.mem_of_getElem? (i := 115) (by decide +kernel)) (by decide +kernel)
theorem w_116 : (Cond.methodLink "RamStation$Counters" (1 : Nat) ({ cls := "java/lang/Object", name := "<init>", desc := "()V" } : Jvm.MethodName)) ∈ TB := tb_of (List.mem_of_getElem? (i := 116) (by decide +kernel)) (by decide +kernel)
theorem w_117 : (Cond.fieldLink "RamStation$Counters" (7 : Nat) "RamStation$Counters" "beats" "I") ∈ TB := tb_of (List.mem_of_getElem? (i := 117) (by decide +kernel)) (by decide +kernel)
theorem w_118 : (Cond.fieldLink "RamStation$Pump" (146 : Nat) "RamStation$Counters" "beats" "I") ∈ TB := tb_of (List.mem_of_getElem? (i := 118) (by decide +kernel)) (by decide +kernel)
theorem w_119 : (Cond.fieldLink "RamStation" (199 : Nat) "RamStation$Counters" "beats" "I") ∈ TB := tb_of (List.mem_of_getElem? (i := 119) (by decide +kernel)) (by decide +kernel)
theorem w_120 : (Cond.fieldLink "RamStation$Counters" (13 : Nat) "RamStation$Counters" "wasted" "I") ∈ TB := tb_of (List.mem_of_getElem? (i := 120) (by decide +kernel)) (by decide +kernel)
theorem w_121 : (Cond.fieldLink "RamStation$Pump" (126 : Nat) "RamStation$Counters" "wasted" "I") ∈ TB := tb_of (List.mem_of_getElem? (i := 121) (by decide +kernel)) (by decide +kernel)
theorem w_122 : (Cond.fieldLink "RamStation" (204 : Nat) "RamStation$Counters" "wasted" "I") ∈ TB := tb_of (List.mem_of_getElem? (i := 122) (by decide +kernel)) (by decide +kernel)
theorem w_123 : (Cond.fieldLink "RamStation$Counters" (16 : Nat) "RamStation$Counters" "relieved" "I") ∈ TB := tb_of (List.mem_of_getElem? (i := 123) (by decide +kernel)) (by decide +kernel)
theorem w_124 : (Cond.fieldLink "RamStation$Pump" (161 : Nat) "RamStation$Counters" "relieved" "I") ∈ TB := tb_of (List.mem_of_getElem? (i := 124) (by decide +kernel)) (by decide +kernel)
theorem w_125 : (Cond.fieldLink "RamStation" (207 : Nat) "RamStation$Counters" "relieved" "I") ∈ TB := tb_of (List.mem_of_getElem? (i := 125) (by decide +kernel)) (by decide +kernel)
theorem w_126 : (Cond.fieldLink "RamStation$Counters" (19 : Nat) "RamStation$Counters" "lifted" "I") ∈ TB := tb_of (List.mem_of_getElem? (i := 126) (by decide +kernel)) (by decide +kernel)
theorem w_127 : (Cond.fieldLink "RamStation$Pump" (171 : Nat) "RamStation$Counters" "lifted" "I") ∈ TB := tb_of (List.mem_of_getElem? (i := 127) (by decide +kernel)) (by decide +kernel)
theorem w_128 : (Cond.fieldLink "RamStation" (210 : Nat) "RamStation$Counters" "lifted" "I") ∈ TB := tb_of (List.mem_of_getElem? (i := 128) (by decide +kernel)) (by decide +kernel)
theorem w_129 : (Cond.fieldLink "RamStation$Counters" (22 : Nat) "RamStation$Counters" "overflowed" "I") ∈ TB := tb_of (List.mem_of_getElem? (i := 129) (by decide +kernel)) (by decide +kernel)
theorem w_130 : (Cond.fieldLink "RamStation$Pump" (177 : Nat) "RamStation$Counters" "overflowed" "I") ∈ TB := tb_of (List.mem_of_getElem? (i := 130) (by decide +kernel)) (by decide +kernel)
theorem w_131 : (Cond.fieldLink "RamStation" (213 : Nat) "RamStation$Counters" "overflowed" "I") ∈ TB := tb_of (List.mem_of_getElem? (i := 131) (by decide +kernel)) (by decide +kernel)
theorem w_132 : (Cond.fieldLink "RamStation$Counters" (25 : Nat) "RamStation$Counters" "starved" "I") ∈ TB := tb_of (List.mem_of_getElem? (i := 132) (by decide +kernel)) (by decide +kernel)
theorem w_133 : (Cond.fieldLink "RamStation$Pump" (96 : Nat) "RamStation$Counters" "starved" "I") ∈ TB := tb_of (List.mem_of_getElem? (i := 133) (by decide +kernel)) (by decide +kernel)
theorem w_134 : (Cond.fieldLink "RamStation" (216 : Nat) "RamStation$Counters" "starved" "I") ∈ TB := tb_of (List.mem_of_getElem? (i := 134) (by decide +kernel)) (by decide +kernel)
theorem w_135 : (Cond.lays "RamStation$Counters" "RamStation$Counters" "beats" "I") ∈ TB := tb_of (List.mem_of_getElem? (i := 135) (by decide +kernel)) (by decide +kernel)
theorem w_137 : (Cond.lays "RamStation$Counters" "RamStation$Counters" "wasted" "I") ∈ TB := tb_of (List.mem_of_getElem? (i := 137) (by decide +kernel)) (by decide +kernel)
theorem w_139 : (Cond.lays "RamStation$Counters" "RamStation$Counters" "relieved" "I") ∈ TB := tb_of (List.mem_of_getElem? (i := 139) (by decide +kernel)) (by decide +kernel)
theorem w_141 : (Cond.lays "RamStation$Counters" "RamStation$Counters" "lifted" "I") ∈ TB := tb_of (List.mem_of_getElem? (i := 141) (by decide +kernel)) (by decide +kernel)
theorem w_143 : (Cond.lays "RamStation$Counters" "RamStation$Counters" "overflowed" "I") ∈ TB := tb_of (List.mem_of_getElem? (i := 143) (by decide +kernel)) (by decide +kernel)
theorem w_145 : (Cond.lays "RamStation$Counters" "RamStation$Counters" "starved" "I") ∈ TB := tb_of (List.mem_of_getElem? (i := 145) (by decide +kernel)) (by decide +kernel)
theorem w_148 : (Cond.classLink "RamStation$Pump" (29 : Nat) "RamStation$Ring") ∈ TB := tb_of (List.mem_of_getElem? (i := 148) (by decide +kernel)) (by decide +kernel)
theorem w_149 : (Cond.instantiable "RamStation$Ring" (3 : Nat)) ∈ TB := tb_of (List.mem_of_getElem? (i := 149) (by decide +kernel)) (by decide +kernel)
theorem w_150 : (Cond.methodLink "RamStation$Pump" (31 : Nat) yX6_init) ∈ TB := tb_of (List.mem_of_getElem? (i := 150) (by decide +kernel)) (by decide +kernel)
theorem w_151 : (Cond.instanceMethod yX6_init) ∈ TB := tb_of (List.mem_of_getElem? (i := 151) (by decide +kernel)) (by decide +kernel)
theorem w_152 : (Cond.code yX6_init cX6_init (2 : Nat) (Option.none : Option FieldType)) ∈ TB := tb_of (List.mem_of_getElem? (i := 152) (by decide +kernel)) (by decide +kernel)
theorem w_153 : (Cond.methodLink "RamStation$Ring" (3 : Nat) ({ cls := "java/lang/Object", name := "<init>", desc := "()V" } : Jvm.MethodName)) ∈ TB := tb_of (List.mem_of_getElem? (i := 153) (by decide +kernel)) (by decide +kernel)
theorem w_154 : (Cond.methodLink "RamStation$Ring" (9 : Nat) ({ cls := "java/lang/Math", name := "max", desc := "(II)I" } : Jvm.MethodName)) ∈ TB := tb_of (List.mem_of_getElem? (i := 154) (by decide +kernel)) (by decide +kernel)
theorem w_155 : (Cond.static ({ cls := "java/lang/Math", name := "max", desc := "(II)I" } : Jvm.MethodName)) ∈ TB := tb_of (List.mem_of_getElem? (i := 155) (by decide +kernel)) (by decide +kernel)
theorem w_156 : (Cond.code ({ cls := "java/lang/Math", name := "max", desc := "(II)I" } : Jvm.MethodName) prog_12_method_65_code (2 : Nat) (Option.some FieldType.int)) ∈ TB := tb_of (List.mem_of_getElem? (i := 156) (by decide +kernel)) (by decide +kernel)
theorem w_157 : (Cond.fieldLink "RamStation$Ring" (15 : Nat) "RamStation$Ring" "places" "[I") ∈ TB := tb_of (List.mem_of_getElem? (i := 157) (by decide +kernel)) (by decide +kernel)
theorem w_158 : (Cond.fieldLink "RamStation$Ring" (25 : Nat) "RamStation$Ring" "count" "I") ∈ TB := tb_of (List.mem_of_getElem? (i := 158) (by decide +kernel)) (by decide +kernel)
theorem w_159 : (Cond.fieldLink "RamStation$Ring" (21 : Nat) "RamStation$Ring" "next" "I") ∈ TB := tb_of (List.mem_of_getElem? (i := 159) (by decide +kernel)) (by decide +kernel)
theorem w_160 : (Cond.laysFinal "RamStation$Ring" "RamStation$Ring" "places" "[I") ∈ TB := tb_of (List.mem_of_getElem? (i := 160) (by decide +kernel)) (by decide +kernel)
theorem w_162 : (Cond.lays "RamStation$Ring" "RamStation$Ring" "count" "I") ∈ TB := tb_of (List.mem_of_getElem? (i := 162) (by decide +kernel)) (by decide +kernel)
theorem w_164 : (Cond.lays "RamStation$Ring" "RamStation$Ring" "next" "I") ∈ TB := tb_of (List.mem_of_getElem? (i := 164) (by decide +kernel)) (by decide +kernel)
theorem w_167 : (Cond.arrayClass FieldType.int) ∈ TB := tb_of (List.mem_of_getElem? (i := 167) (by decide +kernel)) (by decide +kernel)
theorem w_168 : (Cond.fieldLink "RamStation$Pump" (41 : Nat) "RamStation$Pump" "supplyHead" "I") ∈ TB := tb_of (List.mem_of_getElem? (i := 168) (by decide +kernel)) (by decide +kernel)
theorem w_169 : (Cond.fieldLink "RamStation$Pump" (44 : Nat) "RamStation$Pump" "driveLength" "I") ∈ TB := tb_of (List.mem_of_getElem? (i := 169) (by decide +kernel)) (by decide +kernel)
theorem w_170 : (Cond.fieldLink "RamStation" (259 : Nat) "RamStation$Pump" "driveLength" "I") ∈ TB := tb_of (List.mem_of_getElem? (i := 170) (by decide +kernel)) (by decide +kernel)
theorem w_171 : (Cond.fieldLink "RamStation$Pump" (47 : Nat) "RamStation$Pump" "area" "I") ∈ TB := tb_of (List.mem_of_getElem? (i := 171) (by decide +kernel)) (by decide +kernel)
theorem w_172 : (Cond.fieldLink "RamStation$Pump" (50 : Nat) "RamStation$Pump" "friction" "I") ∈ TB := tb_of (List.mem_of_getElem? (i := 172) (by decide +kernel)) (by decide +kernel)
theorem w_173 : (Cond.fieldLink "RamStation$Pump" (53 : Nat) "RamStation$Pump" "lift" "I") ∈ TB := tb_of (List.mem_of_getElem? (i := 173) (by decide +kernel)) (by decide +kernel)
theorem w_174 : (Cond.fieldLink "RamStation$Pump" (56 : Nat) "RamStation$Pump" "running" "Z") ∈ TB := tb_of (List.mem_of_getElem? (i := 174) (by decide +kernel)) (by decide +kernel)
theorem w_175 : (Cond.fieldLink "RamStation$State" (34 : Nat) "RamStation$Pump" "running" "Z") ∈ TB := tb_of (List.mem_of_getElem? (i := 175) (by decide +kernel)) (by decide +kernel)
theorem w_176 : (Cond.fieldLink "RamStation" (76 : Nat) "RamStation$Pump" "running" "Z") ∈ TB := tb_of (List.mem_of_getElem? (i := 176) (by decide +kernel)) (by decide +kernel)
theorem w_177 : (Cond.fieldLink "RamStation$Pump" (60 : Nat) "RamStation$Pump" "speed" "I") ∈ TB := tb_of (List.mem_of_getElem? (i := 177) (by decide +kernel)) (by decide +kernel)
theorem w_178 : (Cond.fieldLink "RamStation" (183 : Nat) "RamStation$Pump" "speed" "I") ∈ TB := tb_of (List.mem_of_getElem? (i := 178) (by decide +kernel)) (by decide +kernel)
theorem w_179 : (Cond.fieldLink "RamStation$Pump" (63 : Nat) "RamStation$Pump" "closed" "Z") ∈ TB := tb_of (List.mem_of_getElem? (i := 179) (by decide +kernel)) (by decide +kernel)
theorem w_180 : (Cond.fieldLink "RamStation" (180 : Nat) "RamStation$Pump" "closed" "Z") ∈ TB := tb_of (List.mem_of_getElem? (i := 180) (by decide +kernel)) (by decide +kernel)
theorem w_181 : (Cond.fieldLink "RamStation$Pump" (66 : Nat) "RamStation$Pump" "openTicks" "I") ∈ TB := tb_of (List.mem_of_getElem? (i := 181) (by decide +kernel)) (by decide +kernel)
theorem w_182 : (Cond.fieldLink "RamStation" (186 : Nat) "RamStation$Pump" "openTicks" "I") ∈ TB := tb_of (List.mem_of_getElem? (i := 182) (by decide +kernel)) (by decide +kernel)
theorem w_183 : (Cond.fieldLink "RamStation$Pump" (69 : Nat) "RamStation$Pump" "valveKind" "I") ∈ TB := tb_of (List.mem_of_getElem? (i := 183) (by decide +kernel)) (by decide +kernel)
theorem w_184 : (Cond.fieldLink "RamStation" (83 : Nat) "RamStation$Pump" "valveKind" "I") ∈ TB := tb_of (List.mem_of_getElem? (i := 184) (by decide +kernel)) (by decide +kernel)
theorem w_185 : (Cond.fieldLink "RamStation$Pump" (9 : Nat) "RamStation$Pump" "setting" "I") ∈ TB := tb_of (List.mem_of_getElem? (i := 185) (by decide +kernel)) (by decide +kernel)
theorem w_186 : (Cond.fieldLink "RamStation" (80 : Nat) "RamStation$Pump" "setting" "I") ∈ TB := tb_of (List.mem_of_getElem? (i := 186) (by decide +kernel)) (by decide +kernel)
theorem w_187 : (Cond.fieldLink "RamStation$Pump" (72 : Nat) "RamStation$Pump" "tank" "I") ∈ TB := tb_of (List.mem_of_getElem? (i := 187) (by decide +kernel)) (by decide +kernel)
theorem w_188 : (Cond.fieldLink "RamStation" (119 : Nat) "RamStation$Pump" "tank" "I") ∈ TB := tb_of (List.mem_of_getElem? (i := 188) (by decide +kernel)) (by decide +kernel)
theorem w_189 : (Cond.fieldLink "RamStation$Pump" (75 : Nat) "RamStation$Pump" "intervalStart" "I") ∈ TB := tb_of (List.mem_of_getElem? (i := 189) (by decide +kernel)) (by decide +kernel)
theorem w_190 : (Cond.fieldLink "RamStation" (109 : Nat) "RamStation$Pump" "intervalStart" "I") ∈ TB := tb_of (List.mem_of_getElem? (i := 190) (by decide +kernel)) (by decide +kernel)
theorem w_191 : (Cond.fieldLink "RamStation$Pump" (18 : Nat) "RamStation$Pump" "chamber" "LRamStation$Chamber;") ∈ TB := tb_of (List.mem_of_getElem? (i := 191) (by decide +kernel)) (by decide +kernel)
theorem w_192 : (Cond.fieldLink "RamStation" (86 : Nat) "RamStation$Pump" "chamber" "LRamStation$Chamber;") ∈ TB := tb_of (List.mem_of_getElem? (i := 192) (by decide +kernel)) (by decide +kernel)
theorem w_193 : (Cond.fieldLink "RamStation$Pump" (25 : Nat) "RamStation$Pump" "counters" "LRamStation$Counters;") ∈ TB := tb_of (List.mem_of_getElem? (i := 193) (by decide +kernel)) (by decide +kernel)
theorem w_194 : (Cond.fieldLink "RamStation" (195 : Nat) "RamStation$Pump" "counters" "LRamStation$Counters;") ∈ TB := tb_of (List.mem_of_getElem? (i := 194) (by decide +kernel)) (by decide +kernel)
theorem w_195 : (Cond.fieldLink "RamStation$Pump" (34 : Nat) "RamStation$Pump" "intervals" "LRamStation$Ring;") ∈ TB := tb_of (List.mem_of_getElem? (i := 195) (by decide +kernel)) (by decide +kernel)
theorem w_196 : (Cond.fieldLink "RamStation" (219 : Nat) "RamStation$Pump" "intervals" "LRamStation$Ring;") ∈ TB := tb_of (List.mem_of_getElem? (i := 196) (by decide +kernel)) (by decide +kernel)
theorem w_197 : (Cond.fieldLink "RamStation$Pump" (38 : Nat) "RamStation$Pump" "trace" "LRamStation$Ring;") ∈ TB := tb_of (List.mem_of_getElem? (i := 197) (by decide +kernel)) (by decide +kernel)
theorem w_198 : (Cond.fieldLink "RamStation" (222 : Nat) "RamStation$Pump" "trace" "LRamStation$Ring;") ∈ TB := tb_of (List.mem_of_getElem? (i := 198) (by decide +kernel)) (by decide +kernel)
theorem w_199 : (Cond.lays "RamStation$Pump" "RamStation$Pump" "supplyHead" "I") ∈ TB := tb_of (List.mem_of_getElem? (i := 199) (by decide +kernel)) (by decide +kernel)
theorem w_201 : (Cond.lays "RamStation$Pump" "RamStation$Pump" "driveLength" "I") ∈ TB := tb_of (List.mem_of_getElem? (i := 201) (by decide +kernel)) (by decide +kernel)
theorem w_203 : (Cond.lays "RamStation$Pump" "RamStation$Pump" "area" "I") ∈ TB := tb_of (List.mem_of_getElem? (i := 203) (by decide +kernel)) (by decide +kernel)
theorem w_205 : (Cond.lays "RamStation$Pump" "RamStation$Pump" "friction" "I") ∈ TB := tb_of (List.mem_of_getElem? (i := 205) (by decide +kernel)) (by decide +kernel)
theorem w_207 : (Cond.lays "RamStation$Pump" "RamStation$Pump" "lift" "I") ∈ TB := tb_of (List.mem_of_getElem? (i := 207) (by decide +kernel)) (by decide +kernel)
theorem w_209 : (Cond.lays "RamStation$Pump" "RamStation$Pump" "running" "Z") ∈ TB := tb_of (List.mem_of_getElem? (i := 209) (by decide +kernel)) (by decide +kernel)
theorem w_211 : (Cond.lays "RamStation$Pump" "RamStation$Pump" "speed" "I") ∈ TB := tb_of (List.mem_of_getElem? (i := 211) (by decide +kernel)) (by decide +kernel)
theorem w_213 : (Cond.lays "RamStation$Pump" "RamStation$Pump" "closed" "Z") ∈ TB := tb_of (List.mem_of_getElem? (i := 213) (by decide +kernel)) (by decide +kernel)
theorem w_215 : (Cond.lays "RamStation$Pump" "RamStation$Pump" "openTicks" "I") ∈ TB := tb_of (List.mem_of_getElem? (i := 215) (by decide +kernel)) (by decide +kernel)
theorem w_217 : (Cond.lays "RamStation$Pump" "RamStation$Pump" "valveKind" "I") ∈ TB := tb_of (List.mem_of_getElem? (i := 217) (by decide +kernel)) (by decide +kernel)
theorem w_219 : (Cond.lays "RamStation$Pump" "RamStation$Pump" "setting" "I") ∈ TB := tb_of (List.mem_of_getElem? (i := 219) (by decide +kernel)) (by decide +kernel)
theorem w_221 : (Cond.lays "RamStation$Pump" "RamStation$Pump" "tank" "I") ∈ TB := tb_of (List.mem_of_getElem? (i := 221) (by decide +kernel)) (by decide +kernel)
theorem w_223 : (Cond.lays "RamStation$Pump" "RamStation$Pump" "intervalStart" "I") ∈ TB := tb_of (List.mem_of_getElem? (i := 223) (by decide +kernel)) (by decide +kernel)
theorem w_225 : (Cond.laysFinal "RamStation$Pump" "RamStation$Pump" "chamber" "LRamStation$Chamber;") ∈ TB := tb_of (List.mem_of_getElem? (i := 225) (by decide +kernel)) (by decide +kernel)
theorem w_227 : (Cond.laysFinal "RamStation$Pump" "RamStation$Pump" "counters" "LRamStation$Counters;") ∈ TB := tb_of (List.mem_of_getElem? (i := 227) (by decide +kernel)) (by decide +kernel)
theorem w_229 : (Cond.laysFinal "RamStation$Pump" "RamStation$Pump" "intervals" "LRamStation$Ring;") ∈ TB := tb_of (List.mem_of_getElem? (i := 229) (by decide +kernel)) (by decide +kernel)
theorem w_231 : (Cond.laysFinal "RamStation$Pump" "RamStation$Pump" "trace" "LRamStation$Ring;") ∈ TB := tb_of (List.mem_of_getElem? (i := 231) (by decide +kernel)) (by decide +kernel)
theorem w_234 : (Cond.fieldLink "RamStation$State" (47 : Nat) "RamStation$State" "time" "I") ∈ TB := tb_of (List.mem_of_getElem? (i := 234) (by decide +kernel)) (by decide +kernel)
theorem w_235 : (Cond.fieldLink "RamStation" (106 : Nat) "RamStation$State" "time" "I") ∈ TB := tb_of (List.mem_of_getElem? (i := 235) (by decide +kernel)) (by decide +kernel)
theorem w_236 : (Cond.fieldLink "RamStation$State" (9 : Nat) "RamStation$State" "basin" "I") ∈ TB := tb_of (List.mem_of_getElem? (i := 236) (by decide +kernel)) (by decide +kernel)
theorem w_237 : (Cond.fieldLink "RamStation" (156 : Nat) "RamStation$State" "basin" "I") ∈ TB := tb_of (List.mem_of_getElem? (i := 237) (by decide +kernel)) (by decide +kernel)
theorem w_238 : (Cond.fieldLink "RamStation$State" (44 : Nat) "RamStation$State" "spilled" "I") ∈ TB := tb_of (List.mem_of_getElem? (i := 238) (by decide +kernel)) (by decide +kernel)
theorem w_239 : (Cond.fieldLink "RamStation" (159 : Nat) "RamStation$State" "spilled" "I") ∈ TB := tb_of (List.mem_of_getElem? (i := 239) (by decide +kernel)) (by decide +kernel)
theorem w_240 : (Cond.fieldLink "RamStation$State" (15 : Nat) "RamStation$State" "inflow" "I") ∈ TB := tb_of (List.mem_of_getElem? (i := 240) (by decide +kernel)) (by decide +kernel)
theorem w_241 : (Cond.fieldLink "RamStation" (103 : Nat) "RamStation$State" "inflow" "I") ∈ TB := tb_of (List.mem_of_getElem? (i := 241) (by decide +kernel)) (by decide +kernel)
theorem w_242 : (Cond.fieldLink "RamStation$State" (27 : Nat) "RamStation$State" "pumpCount" "I") ∈ TB := tb_of (List.mem_of_getElem? (i := 242) (by decide +kernel)) (by decide +kernel)
theorem w_243 : (Cond.fieldLink "RamStation" (62 : Nat) "RamStation$State" "pumpCount" "I") ∈ TB := tb_of (List.mem_of_getElem? (i := 243) (by decide +kernel)) (by decide +kernel)
theorem w_244 : (Cond.fieldLink "RamStation$State" (20 : Nat) "RamStation$State" "pumps" "[LRamStation$Pump;") ∈ TB := tb_of (List.mem_of_getElem? (i := 244) (by decide +kernel)) (by decide +kernel)
theorem w_245 : (Cond.fieldLink "RamStation" (65 : Nat) "RamStation$State" "pumps" "[LRamStation$Pump;") ∈ TB := tb_of (List.mem_of_getElem? (i := 245) (by decide +kernel)) (by decide +kernel)
theorem w_246 : (Cond.lays "RamStation$State" "RamStation$State" "time" "I") ∈ TB := tb_of (List.mem_of_getElem? (i := 246) (by decide +kernel)) (by decide +kernel)
theorem w_248 : (Cond.lays "RamStation$State" "RamStation$State" "basin" "I") ∈ TB := tb_of (List.mem_of_getElem? (i := 248) (by decide +kernel)) (by decide +kernel)
theorem w_250 : (Cond.lays "RamStation$State" "RamStation$State" "spilled" "I") ∈ TB := tb_of (List.mem_of_getElem? (i := 250) (by decide +kernel)) (by decide +kernel)
theorem w_252 : (Cond.lays "RamStation$State" "RamStation$State" "inflow" "I") ∈ TB := tb_of (List.mem_of_getElem? (i := 252) (by decide +kernel)) (by decide +kernel)
theorem w_254 : (Cond.lays "RamStation$State" "RamStation$State" "pumpCount" "I") ∈ TB := tb_of (List.mem_of_getElem? (i := 254) (by decide +kernel)) (by decide +kernel)
theorem w_256 : (Cond.laysFinal "RamStation$State" "RamStation$State" "pumps" "[LRamStation$Pump;") ∈ TB := tb_of (List.mem_of_getElem? (i := 256) (by decide +kernel)) (by decide +kernel)
theorem w_259 : (Cond.arrayOver (FieldType.object "RamStation$State")) ∈ lw_tbl := List.mem_of_getElem? (i := 259) (by decide +kernel)
theorem w_260 : (Cond.classLink "RamStation" (24 : Nat) "RamStation$CommandText") ∈ TB := tb_of (List.mem_of_getElem? (i := 260) (by decide +kernel)) (by decide +kernel)
theorem w_261 : (Cond.instantiable "RamStation$CommandText" (2 : Nat)) ∈ TB := tb_of (List.mem_of_getElem? (i := 261) (by decide +kernel)) (by decide +kernel)
theorem w_262 : (Cond.methodLinkNest "RamStation" (26 : Nat) yX1_init "RamStation") ∈ lw_tbl := List.mem_of_getElem? (i := 262) (by decide +kernel)
theorem w_263 : (Cond.instanceMethod yX1_init) ∈ TB := tb_of (List.mem_of_getElem? (i := 263) (by decide +kernel)) (by decide +kernel)
theorem w_264 : (Cond.code yX1_init cX1_init (1 : Nat) (Option.none : Option FieldType)) ∈ TB := tb_of (List.mem_of_getElem? (i := 264) (by decide +kernel)) (by decide +kernel)
theorem w_265 : (Cond.methodLink "RamStation$CommandText" (3 : Nat) ({ cls := "java/lang/Object", name := "<init>", desc := "()V" } : Jvm.MethodName)) ∈ TB := tb_of (List.mem_of_getElem? (i := 265) (by decide +kernel)) (by decide +kernel)
theorem w_266 : (Cond.fieldLink "RamStation$CommandText" (9 : Nat) "RamStation$CommandText" "signs" "[C") ∈ TB := tb_of (List.mem_of_getElem? (i := 266) (by decide +kernel)) (by decide +kernel)
theorem w_267 : (Cond.fieldLink "RamStation" (138 : Nat) "RamStation$CommandText" "signs" "[C") ∈ TB := tb_of (List.mem_of_getElem? (i := 267) (by decide +kernel)) (by decide +kernel)
theorem w_268 : (Cond.fieldLink "RamStation$CommandText" (15 : Nat) "RamStation$CommandText" "length" "I") ∈ TB := tb_of (List.mem_of_getElem? (i := 268) (by decide +kernel)) (by decide +kernel)
theorem w_269 : (Cond.fieldLink "RamStation" (135 : Nat) "RamStation$CommandText" "length" "I") ∈ TB := tb_of (List.mem_of_getElem? (i := 269) (by decide +kernel)) (by decide +kernel)
theorem w_270 : (Cond.laysFinal "RamStation$CommandText" "RamStation$CommandText" "signs" "[C") ∈ TB := tb_of (List.mem_of_getElem? (i := 270) (by decide +kernel)) (by decide +kernel)
theorem w_272 : (Cond.lays "RamStation$CommandText" "RamStation$CommandText" "length" "I") ∈ TB := tb_of (List.mem_of_getElem? (i := 272) (by decide +kernel)) (by decide +kernel)
theorem w_275 : (Cond.arrayClass FieldType.char) ∈ TB := tb_of (List.mem_of_getElem? (i := 275) (by decide +kernel)) (by decide +kernel)
theorem w_276 : (Cond.classLink "RamStation" (31 : Nat) "RamStation$IncidentLog") ∈ TB := tb_of (List.mem_of_getElem? (i := 276) (by decide +kernel)) (by decide +kernel)
theorem w_277 : (Cond.instantiable "RamStation$IncidentLog" (4 : Nat)) ∈ TB := tb_of (List.mem_of_getElem? (i := 277) (by decide +kernel)) (by decide +kernel)
theorem w_278 : (Cond.methodLinkNest "RamStation" (33 : Nat) yX3_init "RamStation") ∈ lw_tbl := List.mem_of_getElem? (i := 278) (by decide +kernel)
theorem w_279 : (Cond.instanceMethod yX3_init) ∈ TB := tb_of (List.mem_of_getElem? (i := 279) (by decide +kernel)) (by decide +kernel)
theorem w_280 : (Cond.code yX3_init cX3_init (1 : Nat) (Option.none : Option FieldType)) ∈ TB := tb_of (List.mem_of_getElem? (i := 280) (by decide +kernel)) (by decide +kernel)
theorem w_281 : (Cond.methodLink "RamStation$IncidentLog" (3 : Nat) ({ cls := "java/lang/Object", name := "<init>", desc := "()V" } : Jvm.MethodName)) ∈ TB := tb_of (List.mem_of_getElem? (i := 281) (by decide +kernel)) (by decide +kernel)
theorem w_282 : (Cond.classLink "RamStation$IncidentLog" (9 : Nat) "RamStation$Ring") ∈ TB := tb_of (List.mem_of_getElem? (i := 282) (by decide +kernel)) (by decide +kernel)
theorem w_283 : (Cond.methodLink "RamStation$IncidentLog" (11 : Nat) yX6_init) ∈ TB := tb_of (List.mem_of_getElem? (i := 283) (by decide +kernel)) (by decide +kernel)
theorem w_284 : (Cond.fieldLink "RamStation$IncidentLog" (26 : Nat) "RamStation$IncidentLog" "total" "I") ∈ TB := tb_of (List.mem_of_getElem? (i := 284) (by decide +kernel)) (by decide +kernel)
theorem w_285 : (Cond.fieldLink "RamStation" (162 : Nat) "RamStation$IncidentLog" "total" "I") ∈ TB := tb_of (List.mem_of_getElem? (i := 285) (by decide +kernel)) (by decide +kernel)
theorem w_286 : (Cond.fieldLink "RamStation$IncidentLog" (14 : Nat) "RamStation$IncidentLog" "kinds" "LRamStation$Ring;") ∈ TB := tb_of (List.mem_of_getElem? (i := 286) (by decide +kernel)) (by decide +kernel)
theorem w_287 : (Cond.fieldLink "RamStation" (165 : Nat) "RamStation$IncidentLog" "kinds" "LRamStation$Ring;") ∈ TB := tb_of (List.mem_of_getElem? (i := 287) (by decide +kernel)) (by decide +kernel)
theorem w_288 : (Cond.fieldLink "RamStation$IncidentLog" (20 : Nat) "RamStation$IncidentLog" "pumpNumbers" "LRamStation$Ring;") ∈ TB := tb_of (List.mem_of_getElem? (i := 288) (by decide +kernel)) (by decide +kernel)
theorem w_289 : (Cond.fieldLink "RamStation" (174 : Nat) "RamStation$IncidentLog" "pumpNumbers" "LRamStation$Ring;") ∈ TB := tb_of (List.mem_of_getElem? (i := 289) (by decide +kernel)) (by decide +kernel)
theorem w_290 : (Cond.fieldLink "RamStation$IncidentLog" (23 : Nat) "RamStation$IncidentLog" "times" "LRamStation$Ring;") ∈ TB := tb_of (List.mem_of_getElem? (i := 290) (by decide +kernel)) (by decide +kernel)
theorem w_291 : (Cond.fieldLink "RamStation" (177 : Nat) "RamStation$IncidentLog" "times" "LRamStation$Ring;") ∈ TB := tb_of (List.mem_of_getElem? (i := 291) (by decide +kernel)) (by decide +kernel)
theorem w_292 : (Cond.lays "RamStation$IncidentLog" "RamStation$IncidentLog" "total" "I") ∈ TB := tb_of (List.mem_of_getElem? (i := 292) (by decide +kernel)) (by decide +kernel)
theorem w_294 : (Cond.laysFinal "RamStation$IncidentLog" "RamStation$IncidentLog" "kinds" "LRamStation$Ring;") ∈ TB := tb_of (List.mem_of_getElem? (i := 294) (by decide +kernel)) (by decide +kernel)
theorem w_296 : (Cond.laysFinal "RamStation$IncidentLog" "RamStation$IncidentLog" "pumpNumbers" "LRamStation$Ring;") ∈ TB := tb_of (List.mem_of_getElem? (i := 296) (by decide +kernel)) (by decide +kernel)
theorem w_298 : (Cond.laysFinal "RamStation$IncidentLog" "RamStation$IncidentLog" "times" "LRamStation$Ring;") ∈ TB := tb_of (List.mem_of_getElem? (i := 298) (by decide +kernel)) (by decide +kernel)
theorem w_301 : (Cond.classLink "RamStation" (38 : Nat) "RamStation$Report") ∈ TB := tb_of (List.mem_of_getElem? (i := 301) (by decide +kernel)) (by decide +kernel)
theorem w_302 : (Cond.instantiable "RamStation$Report" (5 : Nat)) ∈ TB := tb_of (List.mem_of_getElem? (i := 302) (by decide +kernel)) (by decide +kernel)
theorem w_303 : (Cond.methodLinkNest "RamStation" (40 : Nat) yX5_init "RamStation") ∈ lw_tbl := List.mem_of_getElem? (i := 303) (by decide +kernel)
theorem w_304 : (Cond.instanceMethod yX5_init) ∈ TB := tb_of (List.mem_of_getElem? (i := 304) (by decide +kernel)) (by decide +kernel)
theorem w_305 : (Cond.code yX5_init cX5_init (1 : Nat) (Option.none : Option FieldType)) ∈ TB := tb_of (List.mem_of_getElem? (i := 305) (by decide +kernel)) (by decide +kernel)
theorem w_306 : (Cond.methodLink "RamStation$Report" (1 : Nat) ({ cls := "java/lang/Object", name := "<init>", desc := "()V" } : Jvm.MethodName)) ∈ TB := tb_of (List.mem_of_getElem? (i := 306) (by decide +kernel)) (by decide +kernel)
theorem w_307 : (Cond.fieldLink "RamStation$Report" (7 : Nat) "RamStation$Report" "drawn" "I") ∈ TB := tb_of (List.mem_of_getElem? (i := 307) (by decide +kernel)) (by decide +kernel)
theorem w_308 : (Cond.fieldLink "RamStation$Pump" (102 : Nat) "RamStation$Report" "drawn" "I") ∈ TB := tb_of (List.mem_of_getElem? (i := 308) (by decide +kernel)) (by decide +kernel)
theorem w_309 : (Cond.fieldLink "RamStation" (243 : Nat) "RamStation$Report" "drawn" "I") ∈ TB := tb_of (List.mem_of_getElem? (i := 309) (by decide +kernel)) (by decide +kernel)
theorem w_310 : (Cond.fieldLink "RamStation$Report" (13 : Nat) "RamStation$Report" "delivered" "I") ∈ TB := tb_of (List.mem_of_getElem? (i := 310) (by decide +kernel)) (by decide +kernel)
theorem w_311 : (Cond.fieldLink "RamStation$Pump" (174 : Nat) "RamStation$Report" "delivered" "I") ∈ TB := tb_of (List.mem_of_getElem? (i := 311) (by decide +kernel)) (by decide +kernel)
theorem w_312 : (Cond.fieldLink "RamStation" (266 : Nat) "RamStation$Report" "delivered" "I") ∈ TB := tb_of (List.mem_of_getElem? (i := 312) (by decide +kernel)) (by decide +kernel)
theorem w_313 : (Cond.fieldLink "RamStation$Report" (16 : Nat) "RamStation$Report" "slammed" "Z") ∈ TB := tb_of (List.mem_of_getElem? (i := 313) (by decide +kernel)) (by decide +kernel)
theorem w_314 : (Cond.fieldLink "RamStation$Pump" (143 : Nat) "RamStation$Report" "slammed" "Z") ∈ TB := tb_of (List.mem_of_getElem? (i := 314) (by decide +kernel)) (by decide +kernel)
theorem w_315 : (Cond.fieldLink "RamStation" (237 : Nat) "RamStation$Report" "slammed" "Z") ∈ TB := tb_of (List.mem_of_getElem? (i := 315) (by decide +kernel)) (by decide +kernel)
theorem w_316 : (Cond.fieldLink "RamStation$Report" (20 : Nat) "RamStation$Report" "firstIncident" "I") ∈ TB := tb_of (List.mem_of_getElem? (i := 316) (by decide +kernel)) (by decide +kernel)
theorem w_317 : (Cond.fieldLink "RamStation$Pump" (99 : Nat) "RamStation$Report" "firstIncident" "I") ∈ TB := tb_of (List.mem_of_getElem? (i := 317) (by decide +kernel)) (by decide +kernel)
theorem w_318 : (Cond.fieldLink "RamStation" (272 : Nat) "RamStation$Report" "firstIncident" "I") ∈ TB := tb_of (List.mem_of_getElem? (i := 318) (by decide +kernel)) (by decide +kernel)
theorem w_319 : (Cond.fieldLink "RamStation$Report" (23 : Nat) "RamStation$Report" "overflowing" "Z") ∈ TB := tb_of (List.mem_of_getElem? (i := 319) (by decide +kernel)) (by decide +kernel)
theorem w_320 : (Cond.fieldLink "RamStation$Pump" (180 : Nat) "RamStation$Report" "overflowing" "Z") ∈ TB := tb_of (List.mem_of_getElem? (i := 320) (by decide +kernel)) (by decide +kernel)
theorem w_321 : (Cond.fieldLink "RamStation" (279 : Nat) "RamStation$Report" "overflowing" "Z") ∈ TB := tb_of (List.mem_of_getElem? (i := 321) (by decide +kernel)) (by decide +kernel)
theorem w_322 : (Cond.lays "RamStation$Report" "RamStation$Report" "drawn" "I") ∈ TB := tb_of (List.mem_of_getElem? (i := 322) (by decide +kernel)) (by decide +kernel)
theorem w_324 : (Cond.lays "RamStation$Report" "RamStation$Report" "delivered" "I") ∈ TB := tb_of (List.mem_of_getElem? (i := 324) (by decide +kernel)) (by decide +kernel)
theorem w_326 : (Cond.lays "RamStation$Report" "RamStation$Report" "slammed" "Z") ∈ TB := tb_of (List.mem_of_getElem? (i := 326) (by decide +kernel)) (by decide +kernel)
theorem w_328 : (Cond.lays "RamStation$Report" "RamStation$Report" "firstIncident" "I") ∈ TB := tb_of (List.mem_of_getElem? (i := 328) (by decide +kernel)) (by decide +kernel)
theorem w_330 : (Cond.lays "RamStation$Report" "RamStation$Report" "overflowing" "Z") ∈ TB := tb_of (List.mem_of_getElem? (i := 330) (by decide +kernel)) (by decide +kernel)
theorem w_333 : (Cond.classLink "RamStation" (45 : Nat) "RamStation$Pump") ∈ TB := tb_of (List.mem_of_getElem? (i := 333) (by decide +kernel)) (by decide +kernel)
theorem w_334 : (Cond.methodLink "RamStation" (47 : Nat) yX4_init) ∈ TB := tb_of (List.mem_of_getElem? (i := 334) (by decide +kernel)) (by decide +kernel)
theorem w_335 : (Cond.fieldLink "RamStation" (10 : Nat) "RamStation" "state" "LRamStation$State;") ∈ TB := tb_of (List.mem_of_getElem? (i := 335) (by decide +kernel)) (by decide +kernel)
theorem w_336 : (Cond.fieldLink "RamStation" (16 : Nat) "RamStation" "recorded" "[LRamStation$State;") ∈ TB := tb_of (List.mem_of_getElem? (i := 336) (by decide +kernel)) (by decide +kernel)
theorem w_337 : (Cond.fieldLink "RamStation" (125 : Nat) "RamStation" "recordedCount" "I") ∈ TB := tb_of (List.mem_of_getElem? (i := 337) (by decide +kernel)) (by decide +kernel)
theorem w_338 : (Cond.fieldLink "RamStation" (128 : Nat) "RamStation" "recordNext" "I") ∈ TB := tb_of (List.mem_of_getElem? (i := 338) (by decide +kernel)) (by decide +kernel)
theorem w_339 : (Cond.fieldLink "RamStation" (145 : Nat) "RamStation" "executing" "Z") ∈ TB := tb_of (List.mem_of_getElem? (i := 339) (by decide +kernel)) (by decide +kernel)
theorem w_340 : (Cond.fieldLink "RamStation" (20 : Nat) "RamStation" "lastFailure" "I") ∈ TB := tb_of (List.mem_of_getElem? (i := 340) (by decide +kernel)) (by decide +kernel)
theorem w_341 : (Cond.fieldLink "RamStation" (27 : Nat) "RamStation" "text" "LRamStation$CommandText;") ∈ TB := tb_of (List.mem_of_getElem? (i := 341) (by decide +kernel)) (by decide +kernel)
theorem w_342 : (Cond.fieldLink "RamStation" (34 : Nat) "RamStation" "log" "LRamStation$IncidentLog;") ∈ TB := tb_of (List.mem_of_getElem? (i := 342) (by decide +kernel)) (by decide +kernel)
theorem w_343 : (Cond.fieldLink "RamStation" (41 : Nat) "RamStation" "report" "LRamStation$Report;") ∈ TB := tb_of (List.mem_of_getElem? (i := 343) (by decide +kernel)) (by decide +kernel)
theorem w_344 : (Cond.fieldLink "RamStation" (50 : Nat) "RamStation" "trial" "LRamStation$Pump;") ∈ TB := tb_of (List.mem_of_getElem? (i := 344) (by decide +kernel)) (by decide +kernel)
theorem w_345 : (Cond.fieldLink "RamStation" (54 : Nat) "RamStation" "slamMarks" "[J") ∈ TB := tb_of (List.mem_of_getElem? (i := 345) (by decide +kernel)) (by decide +kernel)
theorem w_346 : (Cond.laysFinal "RamStation" "RamStation" "state" "LRamStation$State;") ∈ TB := tb_of (List.mem_of_getElem? (i := 346) (by decide +kernel)) (by decide +kernel)
theorem w_348 : (Cond.laysFinal "RamStation" "RamStation" "recorded" "[LRamStation$State;") ∈ TB := tb_of (List.mem_of_getElem? (i := 348) (by decide +kernel)) (by decide +kernel)
theorem w_350 : (Cond.lays "RamStation" "RamStation" "recordedCount" "I") ∈ TB := tb_of (List.mem_of_getElem? (i := 350) (by decide +kernel)) (by decide +kernel)
theorem w_352 : (Cond.lays "RamStation" "RamStation" "recordNext" "I") ∈ TB := tb_of (List.mem_of_getElem? (i := 352) (by decide +kernel)) (by decide +kernel)
theorem w_354 : (Cond.lays "RamStation" "RamStation" "executing" "Z") ∈ TB := tb_of (List.mem_of_getElem? (i := 354) (by decide +kernel)) (by decide +kernel)
theorem w_356 : (Cond.lays "RamStation" "RamStation" "lastFailure" "I") ∈ TB := tb_of (List.mem_of_getElem? (i := 356) (by decide +kernel)) (by decide +kernel)
theorem w_358 : (Cond.laysFinal "RamStation" "RamStation" "text" "LRamStation$CommandText;") ∈ TB := tb_of (List.mem_of_getElem? (i := 358) (by decide +kernel)) (by decide +kernel)
theorem w_360 : (Cond.laysFinal "RamStation" "RamStation" "log" "LRamStation$IncidentLog;") ∈ TB := tb_of (List.mem_of_getElem? (i := 360) (by decide +kernel)) (by decide +kernel)
theorem w_362 : (Cond.laysFinal "RamStation" "RamStation" "report" "LRamStation$Report;") ∈ TB := tb_of (List.mem_of_getElem? (i := 362) (by decide +kernel)) (by decide +kernel)
theorem w_364 : (Cond.laysFinal "RamStation" "RamStation" "trial" "LRamStation$Pump;") ∈ TB := tb_of (List.mem_of_getElem? (i := 364) (by decide +kernel)) (by decide +kernel)
theorem w_366 : (Cond.laysFinal "RamStation" "RamStation" "slamMarks" "[J") ∈ TB := tb_of (List.mem_of_getElem? (i := 366) (by decide +kernel)) (by decide +kernel)
theorem w_369 : (Cond.arrayClass FieldType.long) ∈ TB := tb_of (List.mem_of_getElem? (i := 369) (by decide +kernel)) (by decide +kernel)
theorem w_370 : (Cond.methodLink "RamStationLaw" (13 : Nat) yX8_addPump) ∈ TB := tb_of (List.mem_of_getElem? (i := 370) (by decide +kernel)) (by decide +kernel)
theorem w_371 : (Cond.instanceMethod yX8_addPump) ∈ TB := tb_of (List.mem_of_getElem? (i := 371) (by decide +kernel)) (by decide +kernel)
theorem w_372 : (Cond.selects "RamStation" yX8_addPump yX8_addPump) ∈ TB := tb_of (List.mem_of_getElem? (i := 372) (by decide +kernel)) (by decide +kernel)
theorem w_373 : (Cond.code yX8_addPump cX8_addPump (7 : Nat) (Option.some FieldType.int)) ∈ TB := tb_of (List.mem_of_getElem? (i := 373) (by decide +kernel)) (by decide +kernel)
theorem w_374 : (Cond.methodLink "RamStation" (58 : Nat) yX8_outside) ∈ TB := tb_of (List.mem_of_getElem? (i := 374) (by decide +kernel)) (by decide +kernel)
theorem w_375 : (Cond.static yX8_outside) ∈ TB := tb_of (List.mem_of_getElem? (i := 375) (by decide +kernel)) (by decide +kernel)
theorem w_376 : (Cond.code yX8_outside cX8_outside (3 : Nat) (Option.some FieldType.boolean)) ∈ TB := tb_of (List.mem_of_getElem? (i := 376) (by decide +kernel)) (by decide +kernel)
theorem w_377 : (Cond.methodLink "RamStation" (69 : Nat) yX8_keepState) ∈ TB := tb_of (List.mem_of_getElem? (i := 377) (by decide +kernel)) (by decide +kernel)
theorem w_379 : (Cond.instanceMethod yX8_keepState) ∈ TB := tb_of (List.mem_of_getElem? (i := 379) (by decide +kernel)) (by decide +kernel)
theorem w_380 : (Cond.code yX8_keepState cX8_keepState (1 : Nat) (Option.none : Option FieldType)) ∈ TB := tb_of (List.mem_of_getElem? (i := 380) (by decide +kernel)) (by decide +kernel)
theorem w_381 : (Cond.methodLink "RamStation" (131 : Nat) yX7_copyFrom) ∈ TB := tb_of (List.mem_of_getElem? (i := 381) (by decide +kernel)) (by decide +kernel)
theorem w_382 : (Cond.instanceMethod yX7_copyFrom) ∈ TB := tb_of (List.mem_of_getElem? (i := 382) (by decide +kernel)) (by decide +kernel)
theorem w_383 : (Cond.selects "RamStation$State" yX7_copyFrom yX7_copyFrom) ∈ TB := tb_of (List.mem_of_getElem? (i := 383) (by decide +kernel)) (by decide +kernel)
theorem w_384 : (Cond.code yX7_copyFrom cX7_copyFrom (3 : Nat) (Option.none : Option FieldType)) ∈ TB := tb_of (List.mem_of_getElem? (i := 384) (by decide +kernel)) (by decide +kernel)
theorem w_385 : (Cond.methodLink "RamStation$State" (50 : Nat) yX4_copyFrom) ∈ TB := tb_of (List.mem_of_getElem? (i := 385) (by decide +kernel)) (by decide +kernel)
theorem w_386 : (Cond.instanceMethod yX4_copyFrom) ∈ TB := tb_of (List.mem_of_getElem? (i := 386) (by decide +kernel)) (by decide +kernel)
theorem w_387 : (Cond.selects "RamStation$Pump" yX4_copyFrom yX4_copyFrom) ∈ TB := tb_of (List.mem_of_getElem? (i := 387) (by decide +kernel)) (by decide +kernel)
theorem w_388 : (Cond.code yX4_copyFrom cX4_copyFrom (2 : Nat) (Option.none : Option FieldType)) ∈ TB := tb_of (List.mem_of_getElem? (i := 388) (by decide +kernel)) (by decide +kernel)
theorem w_389 : (Cond.methodLink "RamStation$Pump" (78 : Nat) yX0_copyFrom) ∈ TB := tb_of (List.mem_of_getElem? (i := 389) (by decide +kernel)) (by decide +kernel)
theorem w_390 : (Cond.instanceMethod yX0_copyFrom) ∈ TB := tb_of (List.mem_of_getElem? (i := 390) (by decide +kernel)) (by decide +kernel)
theorem w_391 : (Cond.selects "RamStation$Chamber" yX0_copyFrom yX0_copyFrom) ∈ TB := tb_of (List.mem_of_getElem? (i := 391) (by decide +kernel)) (by decide +kernel)
theorem w_392 : (Cond.code yX0_copyFrom cX0_copyFrom (2 : Nat) (Option.none : Option FieldType)) ∈ TB := tb_of (List.mem_of_getElem? (i := 392) (by decide +kernel)) (by decide +kernel)
theorem w_393 : (Cond.methodLink "RamStation$Pump" (82 : Nat) yX2_copyFrom) ∈ TB := tb_of (List.mem_of_getElem? (i := 393) (by decide +kernel)) (by decide +kernel)
theorem w_394 : (Cond.instanceMethod yX2_copyFrom) ∈ TB := tb_of (List.mem_of_getElem? (i := 394) (by decide +kernel)) (by decide +kernel)
theorem w_395 : (Cond.selects "RamStation$Counters" yX2_copyFrom yX2_copyFrom) ∈ TB := tb_of (List.mem_of_getElem? (i := 395) (by decide +kernel)) (by decide +kernel)
theorem w_396 : (Cond.code yX2_copyFrom cX2_copyFrom (2 : Nat) (Option.none : Option FieldType)) ∈ TB := tb_of (List.mem_of_getElem? (i := 396) (by decide +kernel)) (by decide +kernel)
theorem w_397 : (Cond.methodLink "RamStation$Pump" (85 : Nat) yX6_copyFrom) ∈ TB := tb_of (List.mem_of_getElem? (i := 397) (by decide +kernel)) (by decide +kernel)
theorem w_398 : (Cond.instanceMethod yX6_copyFrom) ∈ TB := tb_of (List.mem_of_getElem? (i := 398) (by decide +kernel)) (by decide +kernel)
theorem w_399 : (Cond.selects "RamStation$Ring" yX6_copyFrom yX6_copyFrom) ∈ TB := tb_of (List.mem_of_getElem? (i := 399) (by decide +kernel)) (by decide +kernel)
theorem w_400 : (Cond.code yX6_copyFrom cX6_copyFrom (2 : Nat) (Option.none : Option FieldType)) ∈ TB := tb_of (List.mem_of_getElem? (i := 400) (by decide +kernel)) (by decide +kernel)
theorem w_401 : (Cond.methodLink "RamStation$Ring" (32 : Nat) ({ cls := "java/lang/Math", name := "min", desc := "(II)I" } : Jvm.MethodName)) ∈ TB := tb_of (List.mem_of_getElem? (i := 401) (by decide +kernel)) (by decide +kernel)
theorem w_402 : (Cond.static ({ cls := "java/lang/Math", name := "min", desc := "(II)I" } : Jvm.MethodName)) ∈ TB := tb_of (List.mem_of_getElem? (i := 402) (by decide +kernel)) (by decide +kernel)
theorem w_403 : (Cond.code ({ cls := "java/lang/Math", name := "min", desc := "(II)I" } : Jvm.MethodName) prog_12_method_69_code (2 : Nat) (Option.some FieldType.int)) ∈ TB := tb_of (List.mem_of_getElem? (i := 403) (by decide +kernel)) (by decide +kernel)
theorem w_404 : (Cond.methodLink "RamStation$Ring" (35 : Nat) ({ cls := "java/lang/System", name := "arraycopy", desc := "(Ljava/lang/Object;ILjava/lang/Object;II)V" } : Jvm.MethodName)) ∈ TB := tb_of (List.mem_of_getElem? (i := 404) (by decide +kernel)) (by decide +kernel)
theorem w_405 : (Cond.static ({ cls := "java/lang/System", name := "arraycopy", desc := "(Ljava/lang/Object;ILjava/lang/Object;II)V" } : Jvm.MethodName)) ∈ TB := tb_of (List.mem_of_getElem? (i := 405) (by decide +kernel)) (by decide +kernel)
theorem w_406 : (Cond.native ({ cls := "java/lang/System", name := "arraycopy", desc := "(Ljava/lang/Object;ILjava/lang/Object;II)V" } : Jvm.MethodName)) ∈ TB := tb_of (List.mem_of_getElem? (i := 406) (by decide +kernel)) (by decide +kernel)
theorem w_407 : (Cond.methodLink "RamStationLaw" (18 : Nat) yX8_setValve) ∈ TB := tb_of (List.mem_of_getElem? (i := 407) (by decide +kernel)) (by decide +kernel)
theorem w_408 : (Cond.instanceMethod yX8_setValve) ∈ TB := tb_of (List.mem_of_getElem? (i := 408) (by decide +kernel)) (by decide +kernel)
theorem w_409 : (Cond.selects "RamStation" yX8_setValve yX8_setValve) ∈ TB := tb_of (List.mem_of_getElem? (i := 409) (by decide +kernel)) (by decide +kernel)
theorem w_410 : (Cond.code yX8_setValve cX8_setValve (6 : Nat) (Option.some FieldType.int)) ∈ TB := tb_of (List.mem_of_getElem? (i := 410) (by decide +kernel)) (by decide +kernel)
theorem w_411 : (Cond.methodLink "RamStation" (72 : Nat) yX7_pumpAt) ∈ TB := tb_of (List.mem_of_getElem? (i := 411) (by decide +kernel)) (by decide +kernel)
theorem w_412 : (Cond.instanceMethod yX7_pumpAt) ∈ TB := tb_of (List.mem_of_getElem? (i := 412) (by decide +kernel)) (by decide +kernel)
theorem w_413 : (Cond.selects "RamStation$State" yX7_pumpAt yX7_pumpAt) ∈ TB := tb_of (List.mem_of_getElem? (i := 413) (by decide +kernel)) (by decide +kernel)
theorem w_414 : (Cond.code yX7_pumpAt cX7_pumpAt (2 : Nat) (Option.some (FieldType.object "RamStation$Pump"))) ∈ TB := tb_of (List.mem_of_getElem? (i := 414) (by decide +kernel)) (by decide +kernel)
theorem w_415 : (Cond.methodLinkNest "RamStation$State" (30 : Nat) yX8_outside "RamStation") ∈ lw_tbl := List.mem_of_getElem? (i := 415) (by decide +kernel)
theorem w_416 : (Cond.methodLink "RamStationLaw" (23 : Nat) yX8_setChamber) ∈ TB := tb_of (List.mem_of_getElem? (i := 416) (by decide +kernel)) (by decide +kernel)
theorem w_417 : (Cond.instanceMethod yX8_setChamber) ∈ TB := tb_of (List.mem_of_getElem? (i := 417) (by decide +kernel)) (by decide +kernel)
theorem w_418 : (Cond.selects "RamStation" yX8_setChamber yX8_setChamber) ∈ TB := tb_of (List.mem_of_getElem? (i := 418) (by decide +kernel)) (by decide +kernel)
theorem w_419 : (Cond.code yX8_setChamber cX8_setChamber (6 : Nat) (Option.some FieldType.int)) ∈ TB := tb_of (List.mem_of_getElem? (i := 419) (by decide +kernel)) (by decide +kernel)
theorem w_420 : (Cond.methodLink "RamStation" (95 : Nat) yX7_fillBasin) ∈ TB := tb_of (List.mem_of_getElem? (i := 420) (by decide +kernel)) (by decide +kernel)
theorem w_421 : (Cond.instanceMethod yX7_fillBasin) ∈ TB := tb_of (List.mem_of_getElem? (i := 421) (by decide +kernel)) (by decide +kernel)
theorem w_422 : (Cond.selects "RamStation$State" yX7_fillBasin yX7_fillBasin) ∈ TB := tb_of (List.mem_of_getElem? (i := 422) (by decide +kernel)) (by decide +kernel)
theorem w_423 : (Cond.code yX7_fillBasin cX7_fillBasin (3 : Nat) (Option.none : Option FieldType)) ∈ TB := tb_of (List.mem_of_getElem? (i := 423) (by decide +kernel)) (by decide +kernel)
theorem w_424 : (Cond.methodLink "RamStation$State" (38 : Nat) ({ cls := "java/lang/Math", name := "min", desc := "(II)I" } : Jvm.MethodName)) ∈ TB := tb_of (List.mem_of_getElem? (i := 424) (by decide +kernel)) (by decide +kernel)
theorem w_425 : (Cond.methodLink "RamStation" (99 : Nat) yX0_renew) ∈ TB := tb_of (List.mem_of_getElem? (i := 425) (by decide +kernel)) (by decide +kernel)
theorem w_426 : (Cond.instanceMethod yX0_renew) ∈ TB := tb_of (List.mem_of_getElem? (i := 426) (by decide +kernel)) (by decide +kernel)
theorem w_427 : (Cond.selects "RamStation$Chamber" yX0_renew yX0_renew) ∈ TB := tb_of (List.mem_of_getElem? (i := 427) (by decide +kernel)) (by decide +kernel)
theorem w_428 : (Cond.code yX0_renew cX0_renew (3 : Nat) (Option.none : Option FieldType)) ∈ TB := tb_of (List.mem_of_getElem? (i := 428) (by decide +kernel)) (by decide +kernel)
theorem w_429 : (Cond.methodLink "RamStationLaw" (28 : Nat) yX8_setInflow) ∈ TB := tb_of (List.mem_of_getElem? (i := 429) (by decide +kernel)) (by decide +kernel)
theorem w_430 : (Cond.instanceMethod yX8_setInflow) ∈ TB := tb_of (List.mem_of_getElem? (i := 430) (by decide +kernel)) (by decide +kernel)
theorem w_431 : (Cond.selects "RamStation" yX8_setInflow yX8_setInflow) ∈ TB := tb_of (List.mem_of_getElem? (i := 431) (by decide +kernel)) (by decide +kernel)
theorem w_432 : (Cond.code yX8_setInflow cX8_setInflow (3 : Nat) (Option.some FieldType.int)) ∈ TB := tb_of (List.mem_of_getElem? (i := 432) (by decide +kernel)) (by decide +kernel)
theorem w_433 : (Cond.methodLink "RamStationLaw" (33 : Nat) yX8_start) ∈ TB := tb_of (List.mem_of_getElem? (i := 433) (by decide +kernel)) (by decide +kernel)
theorem w_434 : (Cond.instanceMethod yX8_start) ∈ TB := tb_of (List.mem_of_getElem? (i := 434) (by decide +kernel)) (by decide +kernel)
theorem w_435 : (Cond.selects "RamStation" yX8_start yX8_start) ∈ TB := tb_of (List.mem_of_getElem? (i := 435) (by decide +kernel)) (by decide +kernel)
theorem w_436 : (Cond.code yX8_start cX8_start (3 : Nat) (Option.some FieldType.int)) ∈ TB := tb_of (List.mem_of_getElem? (i := 436) (by decide +kernel)) (by decide +kernel)
theorem w_437 : (Cond.methodLink "RamStation" (112 : Nat) yX7_runningPumps) ∈ TB := tb_of (List.mem_of_getElem? (i := 437) (by decide +kernel)) (by decide +kernel)
theorem w_438 : (Cond.instanceMethod yX7_runningPumps) ∈ TB := tb_of (List.mem_of_getElem? (i := 438) (by decide +kernel)) (by decide +kernel)
theorem w_439 : (Cond.selects "RamStation$State" yX7_runningPumps yX7_runningPumps) ∈ TB := tb_of (List.mem_of_getElem? (i := 439) (by decide +kernel)) (by decide +kernel)
theorem w_440 : (Cond.code yX7_runningPumps cX7_runningPumps (3 : Nat) (Option.some FieldType.int)) ∈ TB := tb_of (List.mem_of_getElem? (i := 440) (by decide +kernel)) (by decide +kernel)
theorem w_441 : (Cond.methodLink "RamStationLaw" (37 : Nat) yX8_stop) ∈ TB := tb_of (List.mem_of_getElem? (i := 441) (by decide +kernel)) (by decide +kernel)
theorem w_442 : (Cond.instanceMethod yX8_stop) ∈ TB := tb_of (List.mem_of_getElem? (i := 442) (by decide +kernel)) (by decide +kernel)
theorem w_443 : (Cond.selects "RamStation" yX8_stop yX8_stop) ∈ TB := tb_of (List.mem_of_getElem? (i := 443) (by decide +kernel)) (by decide +kernel)
theorem w_444 : (Cond.code yX8_stop cX8_stop (3 : Nat) (Option.some FieldType.int)) ∈ TB := tb_of (List.mem_of_getElem? (i := 444) (by decide +kernel)) (by decide +kernel)
theorem w_445 : (Cond.methodLink "RamStation" (116 : Nat) yX4_rest) ∈ TB := tb_of (List.mem_of_getElem? (i := 445) (by decide +kernel)) (by decide +kernel)
theorem w_446 : (Cond.instanceMethod yX4_rest) ∈ TB := tb_of (List.mem_of_getElem? (i := 446) (by decide +kernel)) (by decide +kernel)
theorem w_447 : (Cond.selects "RamStation$Pump" yX4_rest yX4_rest) ∈ TB := tb_of (List.mem_of_getElem? (i := 447) (by decide +kernel)) (by decide +kernel)
theorem w_448 : (Cond.code yX4_rest cX4_rest (1 : Nat) (Option.none : Option FieldType)) ∈ TB := tb_of (List.mem_of_getElem? (i := 448) (by decide +kernel)) (by decide +kernel)
theorem w_449 : (Cond.methodLink "RamStationLaw" (41 : Nat) yX8_emptyTank) ∈ TB := tb_of (List.mem_of_getElem? (i := 449) (by decide +kernel)) (by decide +kernel)
theorem w_450 : (Cond.instanceMethod yX8_emptyTank) ∈ TB := tb_of (List.mem_of_getElem? (i := 450) (by decide +kernel)) (by decide +kernel)
theorem w_451 : (Cond.selects "RamStation" yX8_emptyTank yX8_emptyTank) ∈ TB := tb_of (List.mem_of_getElem? (i := 451) (by decide +kernel)) (by decide +kernel)
theorem w_452 : (Cond.code yX8_emptyTank cX8_emptyTank (4 : Nat) (Option.some FieldType.int)) ∈ TB := tb_of (List.mem_of_getElem? (i := 452) (by decide +kernel)) (by decide +kernel)
theorem w_453 : (Cond.methodLink "RamStationLaw" (45 : Nat) yX8_pass) ∈ TB := tb_of (List.mem_of_getElem? (i := 453) (by decide +kernel)) (by decide +kernel)
theorem w_454 : (Cond.instanceMethod yX8_pass) ∈ TB := tb_of (List.mem_of_getElem? (i := 454) (by decide +kernel)) (by decide +kernel)
theorem w_455 : (Cond.selects "RamStation" yX8_pass yX8_pass) ∈ TB := tb_of (List.mem_of_getElem? (i := 455) (by decide +kernel)) (by decide +kernel)
theorem w_456 : (Cond.code yX8_pass cX8_pass (4 : Nat) (Option.some FieldType.int)) ∈ TB := tb_of (List.mem_of_getElem? (i := 456) (by decide +kernel)) (by decide +kernel)
theorem w_457 : (Cond.methodLink "RamStation" (122 : Nat) yX8_tickStation) ∈ TB := tb_of (List.mem_of_getElem? (i := 457) (by decide +kernel)) (by decide +kernel)
theorem w_459 : (Cond.instanceMethod yX8_tickStation) ∈ TB := tb_of (List.mem_of_getElem? (i := 459) (by decide +kernel)) (by decide +kernel)
theorem w_460 : (Cond.code yX8_tickStation cX8_tickStation (4 : Nat) (Option.some FieldType.int)) ∈ TB := tb_of (List.mem_of_getElem? (i := 460) (by decide +kernel)) (by decide +kernel)
theorem w_461 : (Cond.methodLink "RamStation" (262 : Nat) yX4_tick) ∈ TB := tb_of (List.mem_of_getElem? (i := 461) (by decide +kernel)) (by decide +kernel)
theorem w_462 : (Cond.instanceMethod yX4_tick) ∈ TB := tb_of (List.mem_of_getElem? (i := 462) (by decide +kernel)) (by decide +kernel)
theorem w_463 : (Cond.selects "RamStation$Pump" yX4_tick yX4_tick) ∈ TB := tb_of (List.mem_of_getElem? (i := 463) (by decide +kernel)) (by decide +kernel)
theorem w_464 : (Cond.code yX4_tick cX4_tick (5 : Nat) (Option.none : Option FieldType)) ∈ TB := tb_of (List.mem_of_getElem? (i := 464) (by decide +kernel)) (by decide +kernel)
theorem w_465 : (Cond.methodLink "RamStation$Pump" (88 : Nat) yX5_clear) ∈ TB := tb_of (List.mem_of_getElem? (i := 465) (by decide +kernel)) (by decide +kernel)
theorem w_466 : (Cond.instanceMethod yX5_clear) ∈ TB := tb_of (List.mem_of_getElem? (i := 466) (by decide +kernel)) (by decide +kernel)
theorem w_467 : (Cond.selects "RamStation$Report" yX5_clear yX5_clear) ∈ TB := tb_of (List.mem_of_getElem? (i := 467) (by decide +kernel)) (by decide +kernel)
theorem w_468 : (Cond.code yX5_clear cX5_clear (1 : Nat) (Option.none : Option FieldType)) ∈ TB := tb_of (List.mem_of_getElem? (i := 468) (by decide +kernel)) (by decide +kernel)
theorem w_469 : (Cond.methodLink "RamStation$Pump" (93 : Nat) yX4_rest) ∈ TB := tb_of (List.mem_of_getElem? (i := 469) (by decide +kernel)) (by decide +kernel)
theorem w_470 : (Cond.methodLink "RamStation$Pump" (105 : Nat) yX4_pushIntoChamber) ∈ TB := tb_of (List.mem_of_getElem? (i := 470) (by decide +kernel)) (by decide +kernel)
theorem w_471 : (Cond.instanceMethod yX4_pushIntoChamber) ∈ TB := tb_of (List.mem_of_getElem? (i := 471) (by decide +kernel)) (by decide +kernel)
theorem w_472 : (Cond.selects "RamStation$Pump" yX4_pushIntoChamber yX4_pushIntoChamber) ∈ TB := tb_of (List.mem_of_getElem? (i := 472) (by decide +kernel)) (by decide +kernel)
theorem w_473 : (Cond.code yX4_pushIntoChamber cX4_pushIntoChamber (5 : Nat) (Option.none : Option FieldType)) ∈ TB := tb_of (List.mem_of_getElem? (i := 473) (by decide +kernel)) (by decide +kernel)
theorem w_474 : (Cond.methodLink "RamStation$Pump" (158 : Nat) yX0_take) ∈ TB := tb_of (List.mem_of_getElem? (i := 474) (by decide +kernel)) (by decide +kernel)
theorem w_475 : (Cond.instanceMethod yX0_take) ∈ TB := tb_of (List.mem_of_getElem? (i := 475) (by decide +kernel)) (by decide +kernel)
theorem w_476 : (Cond.selects "RamStation$Chamber" yX0_take yX0_take) ∈ TB := tb_of (List.mem_of_getElem? (i := 476) (by decide +kernel)) (by decide +kernel)
theorem w_477 : (Cond.code yX0_take cX0_take (3 : Nat) (Option.some FieldType.int)) ∈ TB := tb_of (List.mem_of_getElem? (i := 477) (by decide +kernel)) (by decide +kernel)
theorem w_478 : (Cond.methodLink "RamStation$Chamber" (32 : Nat) ({ cls := "java/lang/Math", name := "min", desc := "(II)I" } : Jvm.MethodName)) ∈ TB := tb_of (List.mem_of_getElem? (i := 478) (by decide +kernel)) (by decide +kernel)
theorem w_479 : (Cond.methodLink "RamStation$Pump" (164 : Nat) yX0_head) ∈ TB := tb_of (List.mem_of_getElem? (i := 479) (by decide +kernel)) (by decide +kernel)
theorem w_480 : (Cond.instanceMethod yX0_head) ∈ TB := tb_of (List.mem_of_getElem? (i := 480) (by decide +kernel)) (by decide +kernel)
theorem w_481 : (Cond.selects "RamStation$Chamber" yX0_head yX0_head) ∈ TB := tb_of (List.mem_of_getElem? (i := 481) (by decide +kernel)) (by decide +kernel)
theorem w_482 : (Cond.code yX0_head cX0_head (2 : Nat) (Option.some FieldType.int)) ∈ TB := tb_of (List.mem_of_getElem? (i := 482) (by decide +kernel)) (by decide +kernel)
theorem w_483 : (Cond.methodLink "RamStation$Chamber" (26 : Nat) ({ cls := "java/lang/Math", name := "max", desc := "(II)I" } : Jvm.MethodName)) ∈ TB := tb_of (List.mem_of_getElem? (i := 483) (by decide +kernel)) (by decide +kernel)
theorem w_484 : (Cond.methodLink "RamStation$Pump" (134 : Nat) ({ cls := "java/lang/Math", name := "max", desc := "(II)I" } : Jvm.MethodName)) ∈ TB := tb_of (List.mem_of_getElem? (i := 484) (by decide +kernel)) (by decide +kernel)
theorem w_485 : (Cond.methodLink "RamStation$Pump" (129 : Nat) yX4_speedFrom) ∈ TB := tb_of (List.mem_of_getElem? (i := 485) (by decide +kernel)) (by decide +kernel)
theorem w_486 : (Cond.instanceMethod yX4_speedFrom) ∈ TB := tb_of (List.mem_of_getElem? (i := 486) (by decide +kernel)) (by decide +kernel)
theorem w_487 : (Cond.selects "RamStation$Pump" yX4_speedFrom yX4_speedFrom) ∈ TB := tb_of (List.mem_of_getElem? (i := 487) (by decide +kernel)) (by decide +kernel)
theorem w_488 : (Cond.code yX4_speedFrom cX4_speedFrom (2 : Nat) (Option.some FieldType.int)) ∈ TB := tb_of (List.mem_of_getElem? (i := 488) (by decide +kernel)) (by decide +kernel)
theorem w_489 : (Cond.methodLink "RamStation$Pump" (109 : Nat) yX4_gainSpeed) ∈ TB := tb_of (List.mem_of_getElem? (i := 489) (by decide +kernel)) (by decide +kernel)
theorem w_490 : (Cond.instanceMethod yX4_gainSpeed) ∈ TB := tb_of (List.mem_of_getElem? (i := 490) (by decide +kernel)) (by decide +kernel)
theorem w_491 : (Cond.selects "RamStation$Pump" yX4_gainSpeed yX4_gainSpeed) ∈ TB := tb_of (List.mem_of_getElem? (i := 491) (by decide +kernel)) (by decide +kernel)
theorem w_492 : (Cond.code yX4_gainSpeed cX4_gainSpeed (3 : Nat) (Option.none : Option FieldType)) ∈ TB := tb_of (List.mem_of_getElem? (i := 492) (by decide +kernel)) (by decide +kernel)
theorem w_493 : (Cond.constant "RamStation$Pump" (133 : Nat) (100000 : Int32)) ∈ TB := tb_of (List.mem_of_getElem? (i := 493) (by decide +kernel)) (by decide +kernel)
theorem w_494 : (Cond.methodLink "RamStation$Pump" (140 : Nat) ({ cls := "java/lang/Math", name := "min", desc := "(II)I" } : Jvm.MethodName)) ∈ TB := tb_of (List.mem_of_getElem? (i := 494) (by decide +kernel)) (by decide +kernel)
theorem w_495 : (Cond.methodLink "RamStation$Pump" (112 : Nat) yX4_slamRuleHolds) ∈ TB := tb_of (List.mem_of_getElem? (i := 495) (by decide +kernel)) (by decide +kernel)
theorem w_496 : (Cond.instanceMethod yX4_slamRuleHolds) ∈ TB := tb_of (List.mem_of_getElem? (i := 496) (by decide +kernel)) (by decide +kernel)
theorem w_497 : (Cond.selects "RamStation$Pump" yX4_slamRuleHolds yX4_slamRuleHolds) ∈ TB := tb_of (List.mem_of_getElem? (i := 497) (by decide +kernel)) (by decide +kernel)
theorem w_498 : (Cond.code yX4_slamRuleHolds cX4_slamRuleHolds (1 : Nat) (Option.some FieldType.boolean)) ∈ TB := tb_of (List.mem_of_getElem? (i := 498) (by decide +kernel)) (by decide +kernel)
theorem w_499 : (Cond.methodLink "RamStation$Pump" (116 : Nat) yX4_slam) ∈ TB := tb_of (List.mem_of_getElem? (i := 499) (by decide +kernel)) (by decide +kernel)
theorem w_500 : (Cond.instanceMethod yX4_slam) ∈ TB := tb_of (List.mem_of_getElem? (i := 500) (by decide +kernel)) (by decide +kernel)
theorem w_501 : (Cond.selects "RamStation$Pump" yX4_slam yX4_slam) ∈ TB := tb_of (List.mem_of_getElem? (i := 501) (by decide +kernel)) (by decide +kernel)
theorem w_502 : (Cond.code yX4_slam cX4_slam (4 : Nat) (Option.none : Option FieldType)) ∈ TB := tb_of (List.mem_of_getElem? (i := 502) (by decide +kernel)) (by decide +kernel)
theorem w_503 : (Cond.methodLink "RamStation$Pump" (123 : Nat) yX6_add) ∈ TB := tb_of (List.mem_of_getElem? (i := 503) (by decide +kernel)) (by decide +kernel)
theorem w_504 : (Cond.instanceMethod yX6_add) ∈ TB := tb_of (List.mem_of_getElem? (i := 504) (by decide +kernel)) (by decide +kernel)
theorem w_505 : (Cond.selects "RamStation$Ring" yX6_add yX6_add) ∈ TB := tb_of (List.mem_of_getElem? (i := 505) (by decide +kernel)) (by decide +kernel)
theorem w_506 : (Cond.code yX6_add cX6_add (2 : Nat) (Option.none : Option FieldType)) ∈ TB := tb_of (List.mem_of_getElem? (i := 506) (by decide +kernel)) (by decide +kernel)
theorem w_507 : (Cond.methodLink "RamStation$Pump" (152 : Nat) yX0_changeAir) ∈ TB := tb_of (List.mem_of_getElem? (i := 507) (by decide +kernel)) (by decide +kernel)
theorem w_508 : (Cond.instanceMethod yX0_changeAir) ∈ TB := tb_of (List.mem_of_getElem? (i := 508) (by decide +kernel)) (by decide +kernel)
theorem w_509 : (Cond.selects "RamStation$Chamber" yX0_changeAir yX0_changeAir) ∈ TB := tb_of (List.mem_of_getElem? (i := 509) (by decide +kernel)) (by decide +kernel)
theorem w_510 : (Cond.code yX0_changeAir cX0_changeAir (1 : Nat) (Option.none : Option FieldType)) ∈ TB := tb_of (List.mem_of_getElem? (i := 510) (by decide +kernel)) (by decide +kernel)
theorem w_511 : (Cond.methodLink "RamStation$Pump" (119 : Nat) yX4_deliver) ∈ TB := tb_of (List.mem_of_getElem? (i := 511) (by decide +kernel)) (by decide +kernel)
theorem w_512 : (Cond.instanceMethod yX4_deliver) ∈ TB := tb_of (List.mem_of_getElem? (i := 512) (by decide +kernel)) (by decide +kernel)
theorem w_513 : (Cond.selects "RamStation$Pump" yX4_deliver yX4_deliver) ∈ TB := tb_of (List.mem_of_getElem? (i := 513) (by decide +kernel)) (by decide +kernel)
theorem w_514 : (Cond.code yX4_deliver cX4_deliver (5 : Nat) (Option.none : Option FieldType)) ∈ TB := tb_of (List.mem_of_getElem? (i := 514) (by decide +kernel)) (by decide +kernel)
theorem w_515 : (Cond.methodLink "RamStation" (269 : Nat) yX8_noteIncidents) ∈ TB := tb_of (List.mem_of_getElem? (i := 515) (by decide +kernel)) (by decide +kernel)
theorem w_517 : (Cond.instanceMethod yX8_noteIncidents) ∈ TB := tb_of (List.mem_of_getElem? (i := 517) (by decide +kernel)) (by decide +kernel)
theorem w_518 : (Cond.code yX8_noteIncidents cX8_noteIncidents (2 : Nat) (Option.none : Option FieldType)) ∈ TB := tb_of (List.mem_of_getElem? (i := 518) (by decide +kernel)) (by decide +kernel)
theorem w_519 : (Cond.methodLink "RamStation" (275 : Nat) yX3_add) ∈ TB := tb_of (List.mem_of_getElem? (i := 519) (by decide +kernel)) (by decide +kernel)
theorem w_520 : (Cond.instanceMethod yX3_add) ∈ TB := tb_of (List.mem_of_getElem? (i := 520) (by decide +kernel)) (by decide +kernel)
theorem w_521 : (Cond.selects "RamStation$IncidentLog" yX3_add yX3_add) ∈ TB := tb_of (List.mem_of_getElem? (i := 521) (by decide +kernel)) (by decide +kernel)
theorem w_522 : (Cond.code yX3_add cX3_add (4 : Nat) (Option.none : Option FieldType)) ∈ TB := tb_of (List.mem_of_getElem? (i := 522) (by decide +kernel)) (by decide +kernel)
theorem w_523 : (Cond.methodLink "RamStation$IncidentLog" (30 : Nat) yX6_add) ∈ TB := tb_of (List.mem_of_getElem? (i := 523) (by decide +kernel)) (by decide +kernel)
theorem w_524 : (Cond.methodLink "RamStationLaw" (49 : Nat) yX8_undo) ∈ TB := tb_of (List.mem_of_getElem? (i := 524) (by decide +kernel)) (by decide +kernel)
theorem w_525 : (Cond.instanceMethod yX8_undo) ∈ TB := tb_of (List.mem_of_getElem? (i := 525) (by decide +kernel)) (by decide +kernel)
theorem w_526 : (Cond.selects "RamStation" yX8_undo yX8_undo) ∈ TB := tb_of (List.mem_of_getElem? (i := 526) (by decide +kernel)) (by decide +kernel)
theorem w_527 : (Cond.code yX8_undo cX8_undo (1 : Nat) (Option.some FieldType.int)) ∈ TB := tb_of (List.mem_of_getElem? (i := 527) (by decide +kernel)) (by decide +kernel)
theorem w_528 : (Cond.methodLink "RamStationLaw" (54 : Nat) yX8_type) ∈ TB := tb_of (List.mem_of_getElem? (i := 528) (by decide +kernel)) (by decide +kernel)
theorem w_529 : (Cond.instanceMethod yX8_type) ∈ TB := tb_of (List.mem_of_getElem? (i := 529) (by decide +kernel)) (by decide +kernel)
theorem w_530 : (Cond.selects "RamStation" yX8_type yX8_type) ∈ TB := tb_of (List.mem_of_getElem? (i := 530) (by decide +kernel)) (by decide +kernel)
theorem w_531 : (Cond.code yX8_type cX8_type (2 : Nat) (Option.some FieldType.int)) ∈ TB := tb_of (List.mem_of_getElem? (i := 531) (by decide +kernel)) (by decide +kernel)
theorem w_532 : (Cond.methodLink "RamStationLaw" (58 : Nat) yX8_clearText) ∈ TB := tb_of (List.mem_of_getElem? (i := 532) (by decide +kernel)) (by decide +kernel)
theorem w_533 : (Cond.instanceMethod yX8_clearText) ∈ TB := tb_of (List.mem_of_getElem? (i := 533) (by decide +kernel)) (by decide +kernel)
theorem w_534 : (Cond.selects "RamStation" yX8_clearText yX8_clearText) ∈ TB := tb_of (List.mem_of_getElem? (i := 534) (by decide +kernel)) (by decide +kernel)
theorem w_535 : (Cond.code yX8_clearText cX8_clearText (2 : Nat) (Option.some FieldType.int)) ∈ TB := tb_of (List.mem_of_getElem? (i := 535) (by decide +kernel)) (by decide +kernel)
theorem w_536 : (Cond.methodLink "RamStationLaw" (62 : Nat) yX8_syntaxError) ∈ TB := tb_of (List.mem_of_getElem? (i := 536) (by decide +kernel)) (by decide +kernel)
theorem w_537 : (Cond.instanceMethod yX8_syntaxError) ∈ TB := tb_of (List.mem_of_getElem? (i := 537) (by decide +kernel)) (by decide +kernel)
theorem w_538 : (Cond.selects "RamStation" yX8_syntaxError yX8_syntaxError) ∈ TB := tb_of (List.mem_of_getElem? (i := 538) (by decide +kernel)) (by decide +kernel)
theorem w_539 : (Cond.code yX8_syntaxError cX8_syntaxError (1 : Nat) (Option.some FieldType.int)) ∈ TB := tb_of (List.mem_of_getElem? (i := 539) (by decide +kernel)) (by decide +kernel)
theorem w_540 : (Cond.methodLink "RamStation" (142 : Nat) yX1_firstError) ∈ TB := tb_of (List.mem_of_getElem? (i := 540) (by decide +kernel)) (by decide +kernel)
theorem w_541 : (Cond.instanceMethod yX1_firstError) ∈ TB := tb_of (List.mem_of_getElem? (i := 541) (by decide +kernel)) (by decide +kernel)
theorem w_542 : (Cond.selects "RamStation$CommandText" yX1_firstError yX1_firstError) ∈ TB := tb_of (List.mem_of_getElem? (i := 542) (by decide +kernel)) (by decide +kernel)
theorem w_543 : (Cond.code yX1_firstError cX1_firstError (3 : Nat) (Option.some FieldType.int)) ∈ TB := tb_of (List.mem_of_getElem? (i := 543) (by decide +kernel)) (by decide +kernel)
theorem w_544 : (Cond.methodLink "RamStation$CommandText" (23 : Nat) yX1_signAt) ∈ TB := tb_of (List.mem_of_getElem? (i := 544) (by decide +kernel)) (by decide +kernel)
theorem w_545 : (Cond.instanceMethod yX1_signAt) ∈ TB := tb_of (List.mem_of_getElem? (i := 545) (by decide +kernel)) (by decide +kernel)
theorem w_546 : (Cond.selects "RamStation$CommandText" yX1_signAt yX1_signAt) ∈ TB := tb_of (List.mem_of_getElem? (i := 546) (by decide +kernel)) (by decide +kernel)
theorem w_547 : (Cond.code yX1_signAt cX1_signAt (2 : Nat) (Option.some FieldType.char)) ∈ TB := tb_of (List.mem_of_getElem? (i := 547) (by decide +kernel)) (by decide +kernel)
theorem w_548 : (Cond.methodLinkNest "RamStation$CommandText" (19 : Nat) yX8_outside "RamStation") ∈ lw_tbl := List.mem_of_getElem? (i := 548) (by decide +kernel)
theorem w_549 : (Cond.methodLink "RamStation$CommandText" (31 : Nat) yX1_placeAfter) ∈ TB := tb_of (List.mem_of_getElem? (i := 549) (by decide +kernel)) (by decide +kernel)
theorem w_550 : (Cond.static yX1_placeAfter) ∈ TB := tb_of (List.mem_of_getElem? (i := 550) (by decide +kernel)) (by decide +kernel)
theorem w_551 : (Cond.code yX1_placeAfter cX1_placeAfter (2 : Nat) (Option.some FieldType.int)) ∈ TB := tb_of (List.mem_of_getElem? (i := 551) (by decide +kernel)) (by decide +kernel)
theorem w_552 : (Cond.methodLink "RamStation$CommandText" (35 : Nat) yX1_mayEnd) ∈ TB := tb_of (List.mem_of_getElem? (i := 552) (by decide +kernel)) (by decide +kernel)
theorem w_553 : (Cond.static yX1_mayEnd) ∈ TB := tb_of (List.mem_of_getElem? (i := 553) (by decide +kernel)) (by decide +kernel)
theorem w_554 : (Cond.code yX1_mayEnd cX1_mayEnd (1 : Nat) (Option.some FieldType.boolean)) ∈ TB := tb_of (List.mem_of_getElem? (i := 554) (by decide +kernel)) (by decide +kernel)
theorem w_555 : (Cond.methodLink "RamStation$CommandText" (39 : Nat) yX1_placeAfterLetter) ∈ TB := tb_of (List.mem_of_getElem? (i := 555) (by decide +kernel)) (by decide +kernel)
theorem w_556 : (Cond.static yX1_placeAfterLetter) ∈ TB := tb_of (List.mem_of_getElem? (i := 556) (by decide +kernel)) (by decide +kernel)
theorem w_557 : (Cond.code yX1_placeAfterLetter cX1_placeAfterLetter (1 : Nat) (Option.some FieldType.int)) ∈ TB := tb_of (List.mem_of_getElem? (i := 557) (by decide +kernel)) (by decide +kernel)
theorem w_558 : (Cond.methodLink "RamStation$CommandText" (27 : Nat) yX1_isDigit) ∈ TB := tb_of (List.mem_of_getElem? (i := 558) (by decide +kernel)) (by decide +kernel)
theorem w_559 : (Cond.static yX1_isDigit) ∈ TB := tb_of (List.mem_of_getElem? (i := 559) (by decide +kernel)) (by decide +kernel)
theorem w_560 : (Cond.code yX1_isDigit cX1_isDigit (1 : Nat) (Option.some FieldType.boolean)) ∈ TB := tb_of (List.mem_of_getElem? (i := 560) (by decide +kernel)) (by decide +kernel)
theorem w_561 : (Cond.methodLink "RamStation$CommandText" (43 : Nat) yX1_placeAfterDigit) ∈ TB := tb_of (List.mem_of_getElem? (i := 561) (by decide +kernel)) (by decide +kernel)
theorem w_562 : (Cond.static yX1_placeAfterDigit) ∈ TB := tb_of (List.mem_of_getElem? (i := 562) (by decide +kernel)) (by decide +kernel)
theorem w_563 : (Cond.code yX1_placeAfterDigit cX1_placeAfterDigit (1 : Nat) (Option.some FieldType.int)) ∈ TB := tb_of (List.mem_of_getElem? (i := 563) (by decide +kernel)) (by decide +kernel)
theorem w_564 : (Cond.methodLink "RamStationLaw" (66 : Nat) yX8_execute) ∈ TB := tb_of (List.mem_of_getElem? (i := 564) (by decide +kernel)) (by decide +kernel)
theorem w_565 : (Cond.instanceMethod yX8_execute) ∈ TB := tb_of (List.mem_of_getElem? (i := 565) (by decide +kernel)) (by decide +kernel)
theorem w_566 : (Cond.selects "RamStation" yX8_execute yX8_execute) ∈ TB := tb_of (List.mem_of_getElem? (i := 566) (by decide +kernel)) (by decide +kernel)
theorem w_567 : (Cond.code yX8_execute cX8_execute (5 : Nat) (Option.some FieldType.int)) ∈ TB := tb_of (List.mem_of_getElem? (i := 567) (by decide +kernel)) (by decide +kernel)
theorem w_568 : (Cond.methodLink "RamStation" (148 : Nat) yX1_commandStartsAt) ∈ TB := tb_of (List.mem_of_getElem? (i := 568) (by decide +kernel)) (by decide +kernel)
theorem w_569 : (Cond.instanceMethod yX1_commandStartsAt) ∈ TB := tb_of (List.mem_of_getElem? (i := 569) (by decide +kernel)) (by decide +kernel)
theorem w_570 : (Cond.selects "RamStation$CommandText" yX1_commandStartsAt yX1_commandStartsAt) ∈ TB := tb_of (List.mem_of_getElem? (i := 570) (by decide +kernel)) (by decide +kernel)
theorem w_571 : (Cond.code yX1_commandStartsAt cX1_commandStartsAt (2 : Nat) (Option.some FieldType.boolean)) ∈ TB := tb_of (List.mem_of_getElem? (i := 571) (by decide +kernel)) (by decide +kernel)
theorem w_572 : (Cond.methodLink "RamStation" (152 : Nat) yX8_perform) ∈ TB := tb_of (List.mem_of_getElem? (i := 572) (by decide +kernel)) (by decide +kernel)
theorem w_574 : (Cond.instanceMethod yX8_perform) ∈ TB := tb_of (List.mem_of_getElem? (i := 574) (by decide +kernel)) (by decide +kernel)
theorem w_575 : (Cond.code yX8_perform cX8_perform (3 : Nat) (Option.some FieldType.int)) ∈ TB := tb_of (List.mem_of_getElem? (i := 575) (by decide +kernel)) (by decide +kernel)
theorem w_576 : (Cond.methodLink "RamStation" (282 : Nat) yX1_numberAt) ∈ TB := tb_of (List.mem_of_getElem? (i := 576) (by decide +kernel)) (by decide +kernel)
theorem w_577 : (Cond.instanceMethod yX1_numberAt) ∈ TB := tb_of (List.mem_of_getElem? (i := 577) (by decide +kernel)) (by decide +kernel)
theorem w_578 : (Cond.selects "RamStation$CommandText" yX1_numberAt yX1_numberAt) ∈ TB := tb_of (List.mem_of_getElem? (i := 578) (by decide +kernel)) (by decide +kernel)
theorem w_579 : (Cond.code yX1_numberAt cX1_numberAt (4 : Nat) (Option.some FieldType.int)) ∈ TB := tb_of (List.mem_of_getElem? (i := 579) (by decide +kernel)) (by decide +kernel)
theorem w_580 : (Cond.methodLink "RamStation" (285 : Nat) yX1_signAt) ∈ TB := tb_of (List.mem_of_getElem? (i := 580) (by decide +kernel)) (by decide +kernel)
theorem w_581 : (Cond.methodLink "RamStation" (289 : Nat) yX8_start) ∈ TB := tb_of (List.mem_of_getElem? (i := 581) (by decide +kernel)) (by decide +kernel)
theorem w_582 : (Cond.methodLink "RamStation" (292 : Nat) yX8_stop) ∈ TB := tb_of (List.mem_of_getElem? (i := 582) (by decide +kernel)) (by decide +kernel)
theorem w_583 : (Cond.methodLink "RamStation" (295 : Nat) yX8_emptyTank) ∈ TB := tb_of (List.mem_of_getElem? (i := 583) (by decide +kernel)) (by decide +kernel)
theorem w_584 : (Cond.methodLink "RamStation" (298 : Nat) yX8_valveKindOf) ∈ TB := tb_of (List.mem_of_getElem? (i := 584) (by decide +kernel)) (by decide +kernel)
theorem w_586 : (Cond.instanceMethod yX8_valveKindOf) ∈ TB := tb_of (List.mem_of_getElem? (i := 586) (by decide +kernel)) (by decide +kernel)
theorem w_587 : (Cond.code yX8_valveKindOf cX8_valveKindOf (3 : Nat) (Option.some FieldType.int)) ∈ TB := tb_of (List.mem_of_getElem? (i := 587) (by decide +kernel)) (by decide +kernel)
theorem w_588 : (Cond.methodLink "RamStation" (301 : Nat) yX8_setValve) ∈ TB := tb_of (List.mem_of_getElem? (i := 588) (by decide +kernel)) (by decide +kernel)
theorem w_589 : (Cond.methodLink "RamStation" (305 : Nat) yX8_setInflow) ∈ TB := tb_of (List.mem_of_getElem? (i := 589) (by decide +kernel)) (by decide +kernel)
theorem w_590 : (Cond.methodLink "RamStation" (308 : Nat) yX8_pass) ∈ TB := tb_of (List.mem_of_getElem? (i := 590) (by decide +kernel)) (by decide +kernel)
theorem w_591 : (Cond.methodLink "RamStationLaw" (70 : Nat) yX8_failure) ∈ TB := tb_of (List.mem_of_getElem? (i := 591) (by decide +kernel)) (by decide +kernel)
theorem w_592 : (Cond.instanceMethod yX8_failure) ∈ TB := tb_of (List.mem_of_getElem? (i := 592) (by decide +kernel)) (by decide +kernel)
theorem w_593 : (Cond.selects "RamStation" yX8_failure yX8_failure) ∈ TB := tb_of (List.mem_of_getElem? (i := 593) (by decide +kernel)) (by decide +kernel)
theorem w_594 : (Cond.code yX8_failure cX8_failure (1 : Nat) (Option.some FieldType.int)) ∈ TB := tb_of (List.mem_of_getElem? (i := 594) (by decide +kernel)) (by decide +kernel)
theorem w_595 : (Cond.methodLink "RamStationLaw" (74 : Nat) yX8_time) ∈ TB := tb_of (List.mem_of_getElem? (i := 595) (by decide +kernel)) (by decide +kernel)
theorem w_596 : (Cond.instanceMethod yX8_time) ∈ TB := tb_of (List.mem_of_getElem? (i := 596) (by decide +kernel)) (by decide +kernel)
theorem w_597 : (Cond.selects "RamStation" yX8_time yX8_time) ∈ TB := tb_of (List.mem_of_getElem? (i := 597) (by decide +kernel)) (by decide +kernel)
theorem w_598 : (Cond.code yX8_time cX8_time (1 : Nat) (Option.some FieldType.int)) ∈ TB := tb_of (List.mem_of_getElem? (i := 598) (by decide +kernel)) (by decide +kernel)
theorem w_599 : (Cond.methodLink "RamStationLaw" (78 : Nat) yX8_basin) ∈ TB := tb_of (List.mem_of_getElem? (i := 599) (by decide +kernel)) (by decide +kernel)
theorem w_600 : (Cond.instanceMethod yX8_basin) ∈ TB := tb_of (List.mem_of_getElem? (i := 600) (by decide +kernel)) (by decide +kernel)
theorem w_601 : (Cond.selects "RamStation" yX8_basin yX8_basin) ∈ TB := tb_of (List.mem_of_getElem? (i := 601) (by decide +kernel)) (by decide +kernel)
theorem w_602 : (Cond.code yX8_basin cX8_basin (1 : Nat) (Option.some FieldType.int)) ∈ TB := tb_of (List.mem_of_getElem? (i := 602) (by decide +kernel)) (by decide +kernel)
theorem w_603 : (Cond.methodLink "RamStationLaw" (82 : Nat) yX8_spilled) ∈ TB := tb_of (List.mem_of_getElem? (i := 603) (by decide +kernel)) (by decide +kernel)
theorem w_604 : (Cond.instanceMethod yX8_spilled) ∈ TB := tb_of (List.mem_of_getElem? (i := 604) (by decide +kernel)) (by decide +kernel)
theorem w_605 : (Cond.selects "RamStation" yX8_spilled yX8_spilled) ∈ TB := tb_of (List.mem_of_getElem? (i := 605) (by decide +kernel)) (by decide +kernel)
theorem w_606 : (Cond.code yX8_spilled cX8_spilled (1 : Nat) (Option.some FieldType.int)) ∈ TB := tb_of (List.mem_of_getElem? (i := 606) (by decide +kernel)) (by decide +kernel)
theorem w_607 : (Cond.methodLink "RamStationLaw" (86 : Nat) yX8_pumps) ∈ TB := tb_of (List.mem_of_getElem? (i := 607) (by decide +kernel)) (by decide +kernel)
theorem w_608 : (Cond.instanceMethod yX8_pumps) ∈ TB := tb_of (List.mem_of_getElem? (i := 608) (by decide +kernel)) (by decide +kernel)
theorem w_609 : (Cond.selects "RamStation" yX8_pumps yX8_pumps) ∈ TB := tb_of (List.mem_of_getElem? (i := 609) (by decide +kernel)) (by decide +kernel)
theorem w_610 : (Cond.code yX8_pumps cX8_pumps (1 : Nat) (Option.some FieldType.int)) ∈ TB := tb_of (List.mem_of_getElem? (i := 610) (by decide +kernel)) (by decide +kernel)
theorem w_611 : (Cond.methodLink "RamStationLaw" (90 : Nat) yX8_incidents) ∈ TB := tb_of (List.mem_of_getElem? (i := 611) (by decide +kernel)) (by decide +kernel)
theorem w_612 : (Cond.instanceMethod yX8_incidents) ∈ TB := tb_of (List.mem_of_getElem? (i := 612) (by decide +kernel)) (by decide +kernel)
theorem w_613 : (Cond.selects "RamStation" yX8_incidents yX8_incidents) ∈ TB := tb_of (List.mem_of_getElem? (i := 613) (by decide +kernel)) (by decide +kernel)
theorem w_614 : (Cond.code yX8_incidents cX8_incidents (1 : Nat) (Option.some FieldType.int)) ∈ TB := tb_of (List.mem_of_getElem? (i := 614) (by decide +kernel)) (by decide +kernel)
theorem w_615 : (Cond.methodLink "RamStationLaw" (94 : Nat) yX8_incidentKind) ∈ TB := tb_of (List.mem_of_getElem? (i := 615) (by decide +kernel)) (by decide +kernel)
theorem w_616 : (Cond.instanceMethod yX8_incidentKind) ∈ TB := tb_of (List.mem_of_getElem? (i := 616) (by decide +kernel)) (by decide +kernel)
theorem w_617 : (Cond.selects "RamStation" yX8_incidentKind yX8_incidentKind) ∈ TB := tb_of (List.mem_of_getElem? (i := 617) (by decide +kernel)) (by decide +kernel)
theorem w_618 : (Cond.code yX8_incidentKind cX8_incidentKind (2 : Nat) (Option.some FieldType.int)) ∈ TB := tb_of (List.mem_of_getElem? (i := 618) (by decide +kernel)) (by decide +kernel)
theorem w_619 : (Cond.methodLink "RamStation" (169 : Nat) yX6_latest) ∈ TB := tb_of (List.mem_of_getElem? (i := 619) (by decide +kernel)) (by decide +kernel)
theorem w_620 : (Cond.instanceMethod yX6_latest) ∈ TB := tb_of (List.mem_of_getElem? (i := 620) (by decide +kernel)) (by decide +kernel)
theorem w_621 : (Cond.selects "RamStation$Ring" yX6_latest yX6_latest) ∈ TB := tb_of (List.mem_of_getElem? (i := 621) (by decide +kernel)) (by decide +kernel)
theorem w_622 : (Cond.code yX6_latest cX6_latest (3 : Nat) (Option.some FieldType.int)) ∈ TB := tb_of (List.mem_of_getElem? (i := 622) (by decide +kernel)) (by decide +kernel)
theorem w_623 : (Cond.methodLinkNest "RamStation$Ring" (28 : Nat) yX8_outside "RamStation") ∈ lw_tbl := List.mem_of_getElem? (i := 623) (by decide +kernel)
theorem w_624 : (Cond.methodLink "RamStationLaw" (98 : Nat) yX8_incidentPump) ∈ TB := tb_of (List.mem_of_getElem? (i := 624) (by decide +kernel)) (by decide +kernel)
theorem w_625 : (Cond.instanceMethod yX8_incidentPump) ∈ TB := tb_of (List.mem_of_getElem? (i := 625) (by decide +kernel)) (by decide +kernel)
theorem w_626 : (Cond.selects "RamStation" yX8_incidentPump yX8_incidentPump) ∈ TB := tb_of (List.mem_of_getElem? (i := 626) (by decide +kernel)) (by decide +kernel)
theorem w_627 : (Cond.code yX8_incidentPump cX8_incidentPump (2 : Nat) (Option.some FieldType.int)) ∈ TB := tb_of (List.mem_of_getElem? (i := 627) (by decide +kernel)) (by decide +kernel)
theorem w_628 : (Cond.methodLink "RamStationLaw" (102 : Nat) yX8_incidentTime) ∈ TB := tb_of (List.mem_of_getElem? (i := 628) (by decide +kernel)) (by decide +kernel)
theorem w_629 : (Cond.instanceMethod yX8_incidentTime) ∈ TB := tb_of (List.mem_of_getElem? (i := 629) (by decide +kernel)) (by decide +kernel)
theorem w_630 : (Cond.selects "RamStation" yX8_incidentTime yX8_incidentTime) ∈ TB := tb_of (List.mem_of_getElem? (i := 630) (by decide +kernel)) (by decide +kernel)
theorem w_631 : (Cond.code yX8_incidentTime cX8_incidentTime (2 : Nat) (Option.some FieldType.int)) ∈ TB := tb_of (List.mem_of_getElem? (i := 631) (by decide +kernel)) (by decide +kernel)
theorem w_632 : (Cond.methodLink "RamStationLaw" (106 : Nat) yX8_phase) ∈ TB := tb_of (List.mem_of_getElem? (i := 632) (by decide +kernel)) (by decide +kernel)
theorem w_633 : (Cond.instanceMethod yX8_phase) ∈ TB := tb_of (List.mem_of_getElem? (i := 633) (by decide +kernel)) (by decide +kernel)
theorem w_634 : (Cond.selects "RamStation" yX8_phase yX8_phase) ∈ TB := tb_of (List.mem_of_getElem? (i := 634) (by decide +kernel)) (by decide +kernel)
theorem w_635 : (Cond.code yX8_phase cX8_phase (3 : Nat) (Option.some FieldType.int)) ∈ TB := tb_of (List.mem_of_getElem? (i := 635) (by decide +kernel)) (by decide +kernel)
theorem w_636 : (Cond.methodLink "RamStationLaw" (110 : Nat) yX8_speed) ∈ TB := tb_of (List.mem_of_getElem? (i := 636) (by decide +kernel)) (by decide +kernel)
theorem w_637 : (Cond.instanceMethod yX8_speed) ∈ TB := tb_of (List.mem_of_getElem? (i := 637) (by decide +kernel)) (by decide +kernel)
theorem w_638 : (Cond.selects "RamStation" yX8_speed yX8_speed) ∈ TB := tb_of (List.mem_of_getElem? (i := 638) (by decide +kernel)) (by decide +kernel)
theorem w_639 : (Cond.code yX8_speed cX8_speed (3 : Nat) (Option.some FieldType.int)) ∈ TB := tb_of (List.mem_of_getElem? (i := 639) (by decide +kernel)) (by decide +kernel)
theorem w_640 : (Cond.methodLink "RamStationLaw" (114 : Nat) yX8_openTicks) ∈ TB := tb_of (List.mem_of_getElem? (i := 640) (by decide +kernel)) (by decide +kernel)
theorem w_641 : (Cond.instanceMethod yX8_openTicks) ∈ TB := tb_of (List.mem_of_getElem? (i := 641) (by decide +kernel)) (by decide +kernel)
theorem w_642 : (Cond.selects "RamStation" yX8_openTicks yX8_openTicks) ∈ TB := tb_of (List.mem_of_getElem? (i := 642) (by decide +kernel)) (by decide +kernel)
theorem w_643 : (Cond.code yX8_openTicks cX8_openTicks (3 : Nat) (Option.some FieldType.int)) ∈ TB := tb_of (List.mem_of_getElem? (i := 643) (by decide +kernel)) (by decide +kernel)
theorem w_644 : (Cond.methodLink "RamStationLaw" (118 : Nat) yX8_chamberWater) ∈ TB := tb_of (List.mem_of_getElem? (i := 644) (by decide +kernel)) (by decide +kernel)
theorem w_645 : (Cond.instanceMethod yX8_chamberWater) ∈ TB := tb_of (List.mem_of_getElem? (i := 645) (by decide +kernel)) (by decide +kernel)
theorem w_646 : (Cond.selects "RamStation" yX8_chamberWater yX8_chamberWater) ∈ TB := tb_of (List.mem_of_getElem? (i := 646) (by decide +kernel)) (by decide +kernel)
theorem w_647 : (Cond.code yX8_chamberWater cX8_chamberWater (3 : Nat) (Option.some FieldType.int)) ∈ TB := tb_of (List.mem_of_getElem? (i := 647) (by decide +kernel)) (by decide +kernel)
theorem w_648 : (Cond.methodLink "RamStationLaw" (122 : Nat) yX8_air) ∈ TB := tb_of (List.mem_of_getElem? (i := 648) (by decide +kernel)) (by decide +kernel)
theorem w_649 : (Cond.instanceMethod yX8_air) ∈ TB := tb_of (List.mem_of_getElem? (i := 649) (by decide +kernel)) (by decide +kernel)
theorem w_650 : (Cond.selects "RamStation" yX8_air yX8_air) ∈ TB := tb_of (List.mem_of_getElem? (i := 650) (by decide +kernel)) (by decide +kernel)
theorem w_651 : (Cond.code yX8_air cX8_air (3 : Nat) (Option.some FieldType.int)) ∈ TB := tb_of (List.mem_of_getElem? (i := 651) (by decide +kernel)) (by decide +kernel)
theorem w_652 : (Cond.methodLink "RamStationLaw" (126 : Nat) yX8_chamberHead) ∈ TB := tb_of (List.mem_of_getElem? (i := 652) (by decide +kernel)) (by decide +kernel)
theorem w_653 : (Cond.instanceMethod yX8_chamberHead) ∈ TB := tb_of (List.mem_of_getElem? (i := 653) (by decide +kernel)) (by decide +kernel)
theorem w_654 : (Cond.selects "RamStation" yX8_chamberHead yX8_chamberHead) ∈ TB := tb_of (List.mem_of_getElem? (i := 654) (by decide +kernel)) (by decide +kernel)
theorem w_655 : (Cond.code yX8_chamberHead cX8_chamberHead (3 : Nat) (Option.some FieldType.int)) ∈ TB := tb_of (List.mem_of_getElem? (i := 655) (by decide +kernel)) (by decide +kernel)
theorem w_656 : (Cond.methodLink "RamStation" (192 : Nat) yX0_head) ∈ TB := tb_of (List.mem_of_getElem? (i := 656) (by decide +kernel)) (by decide +kernel)
theorem w_657 : (Cond.methodLink "RamStationLaw" (130 : Nat) yX8_beats) ∈ TB := tb_of (List.mem_of_getElem? (i := 657) (by decide +kernel)) (by decide +kernel)
theorem w_658 : (Cond.instanceMethod yX8_beats) ∈ TB := tb_of (List.mem_of_getElem? (i := 658) (by decide +kernel)) (by decide +kernel)
theorem w_659 : (Cond.selects "RamStation" yX8_beats yX8_beats) ∈ TB := tb_of (List.mem_of_getElem? (i := 659) (by decide +kernel)) (by decide +kernel)
theorem w_660 : (Cond.code yX8_beats cX8_beats (3 : Nat) (Option.some FieldType.int)) ∈ TB := tb_of (List.mem_of_getElem? (i := 660) (by decide +kernel)) (by decide +kernel)
theorem w_661 : (Cond.methodLink "RamStationLaw" (134 : Nat) yX8_wasted) ∈ TB := tb_of (List.mem_of_getElem? (i := 661) (by decide +kernel)) (by decide +kernel)
theorem w_662 : (Cond.instanceMethod yX8_wasted) ∈ TB := tb_of (List.mem_of_getElem? (i := 662) (by decide +kernel)) (by decide +kernel)
theorem w_663 : (Cond.selects "RamStation" yX8_wasted yX8_wasted) ∈ TB := tb_of (List.mem_of_getElem? (i := 663) (by decide +kernel)) (by decide +kernel)
theorem w_664 : (Cond.code yX8_wasted cX8_wasted (3 : Nat) (Option.some FieldType.int)) ∈ TB := tb_of (List.mem_of_getElem? (i := 664) (by decide +kernel)) (by decide +kernel)
theorem w_665 : (Cond.methodLink "RamStationLaw" (138 : Nat) yX8_relieved) ∈ TB := tb_of (List.mem_of_getElem? (i := 665) (by decide +kernel)) (by decide +kernel)
theorem w_666 : (Cond.instanceMethod yX8_relieved) ∈ TB := tb_of (List.mem_of_getElem? (i := 666) (by decide +kernel)) (by decide +kernel)
theorem w_667 : (Cond.selects "RamStation" yX8_relieved yX8_relieved) ∈ TB := tb_of (List.mem_of_getElem? (i := 667) (by decide +kernel)) (by decide +kernel)
theorem w_668 : (Cond.code yX8_relieved cX8_relieved (3 : Nat) (Option.some FieldType.int)) ∈ TB := tb_of (List.mem_of_getElem? (i := 668) (by decide +kernel)) (by decide +kernel)
theorem w_669 : (Cond.methodLink "RamStationLaw" (142 : Nat) yX8_lifted) ∈ TB := tb_of (List.mem_of_getElem? (i := 669) (by decide +kernel)) (by decide +kernel)
theorem w_670 : (Cond.instanceMethod yX8_lifted) ∈ TB := tb_of (List.mem_of_getElem? (i := 670) (by decide +kernel)) (by decide +kernel)
theorem w_671 : (Cond.selects "RamStation" yX8_lifted yX8_lifted) ∈ TB := tb_of (List.mem_of_getElem? (i := 671) (by decide +kernel)) (by decide +kernel)
theorem w_672 : (Cond.code yX8_lifted cX8_lifted (3 : Nat) (Option.some FieldType.int)) ∈ TB := tb_of (List.mem_of_getElem? (i := 672) (by decide +kernel)) (by decide +kernel)
theorem w_673 : (Cond.methodLink "RamStationLaw" (146 : Nat) yX8_overflowed) ∈ TB := tb_of (List.mem_of_getElem? (i := 673) (by decide +kernel)) (by decide +kernel)
theorem w_674 : (Cond.instanceMethod yX8_overflowed) ∈ TB := tb_of (List.mem_of_getElem? (i := 674) (by decide +kernel)) (by decide +kernel)
theorem w_675 : (Cond.selects "RamStation" yX8_overflowed yX8_overflowed) ∈ TB := tb_of (List.mem_of_getElem? (i := 675) (by decide +kernel)) (by decide +kernel)
theorem w_676 : (Cond.code yX8_overflowed cX8_overflowed (3 : Nat) (Option.some FieldType.int)) ∈ TB := tb_of (List.mem_of_getElem? (i := 676) (by decide +kernel)) (by decide +kernel)
theorem w_677 : (Cond.methodLink "RamStationLaw" (150 : Nat) yX8_starved) ∈ TB := tb_of (List.mem_of_getElem? (i := 677) (by decide +kernel)) (by decide +kernel)
theorem w_678 : (Cond.instanceMethod yX8_starved) ∈ TB := tb_of (List.mem_of_getElem? (i := 678) (by decide +kernel)) (by decide +kernel)
theorem w_679 : (Cond.selects "RamStation" yX8_starved yX8_starved) ∈ TB := tb_of (List.mem_of_getElem? (i := 679) (by decide +kernel)) (by decide +kernel)
theorem w_680 : (Cond.code yX8_starved cX8_starved (3 : Nat) (Option.some FieldType.int)) ∈ TB := tb_of (List.mem_of_getElem? (i := 680) (by decide +kernel)) (by decide +kernel)
theorem w_681 : (Cond.methodLink "RamStationLaw" (154 : Nat) yX8_tank) ∈ TB := tb_of (List.mem_of_getElem? (i := 681) (by decide +kernel)) (by decide +kernel)
theorem w_682 : (Cond.instanceMethod yX8_tank) ∈ TB := tb_of (List.mem_of_getElem? (i := 682) (by decide +kernel)) (by decide +kernel)
theorem w_683 : (Cond.selects "RamStation" yX8_tank yX8_tank) ∈ TB := tb_of (List.mem_of_getElem? (i := 683) (by decide +kernel)) (by decide +kernel)
theorem w_684 : (Cond.code yX8_tank cX8_tank (3 : Nat) (Option.some FieldType.int)) ∈ TB := tb_of (List.mem_of_getElem? (i := 684) (by decide +kernel)) (by decide +kernel)
theorem w_685 : (Cond.methodLink "RamStationLaw" (158 : Nat) yX8_interval) ∈ TB := tb_of (List.mem_of_getElem? (i := 685) (by decide +kernel)) (by decide +kernel)
theorem w_686 : (Cond.instanceMethod yX8_interval) ∈ TB := tb_of (List.mem_of_getElem? (i := 686) (by decide +kernel)) (by decide +kernel)
theorem w_687 : (Cond.selects "RamStation" yX8_interval yX8_interval) ∈ TB := tb_of (List.mem_of_getElem? (i := 687) (by decide +kernel)) (by decide +kernel)
theorem w_688 : (Cond.code yX8_interval cX8_interval (4 : Nat) (Option.some FieldType.int)) ∈ TB := tb_of (List.mem_of_getElem? (i := 688) (by decide +kernel)) (by decide +kernel)
theorem w_689 : (Cond.methodLink "RamStationLaw" (163 : Nat) yX8_trace) ∈ TB := tb_of (List.mem_of_getElem? (i := 689) (by decide +kernel)) (by decide +kernel)
theorem w_690 : (Cond.instanceMethod yX8_trace) ∈ TB := tb_of (List.mem_of_getElem? (i := 690) (by decide +kernel)) (by decide +kernel)
theorem w_691 : (Cond.selects "RamStation" yX8_trace yX8_trace) ∈ TB := tb_of (List.mem_of_getElem? (i := 691) (by decide +kernel)) (by decide +kernel)
theorem w_692 : (Cond.code yX8_trace cX8_trace (4 : Nat) (Option.some FieldType.int)) ∈ TB := tb_of (List.mem_of_getElem? (i := 692) (by decide +kernel)) (by decide +kernel)
theorem w_693 : (Cond.methodLink "RamStationLaw" (167 : Nat) yX8_efficiency) ∈ TB := tb_of (List.mem_of_getElem? (i := 693) (by decide +kernel)) (by decide +kernel)
theorem w_694 : (Cond.instanceMethod yX8_efficiency) ∈ TB := tb_of (List.mem_of_getElem? (i := 694) (by decide +kernel)) (by decide +kernel)
theorem w_695 : (Cond.selects "RamStation" yX8_efficiency yX8_efficiency) ∈ TB := tb_of (List.mem_of_getElem? (i := 695) (by decide +kernel)) (by decide +kernel)
theorem w_696 : (Cond.code yX8_efficiency cX8_efficiency (3 : Nat) (Option.some FieldType.int)) ∈ TB := tb_of (List.mem_of_getElem? (i := 696) (by decide +kernel)) (by decide +kernel)
theorem w_697 : (Cond.methodLink "RamStation" (225 : Nat) yX4_thousandths) ∈ TB := tb_of (List.mem_of_getElem? (i := 697) (by decide +kernel)) (by decide +kernel)
theorem w_698 : (Cond.instanceMethod yX4_thousandths) ∈ TB := tb_of (List.mem_of_getElem? (i := 698) (by decide +kernel)) (by decide +kernel)
theorem w_699 : (Cond.selects "RamStation$Pump" yX4_thousandths yX4_thousandths) ∈ TB := tb_of (List.mem_of_getElem? (i := 699) (by decide +kernel)) (by decide +kernel)
theorem w_700 : (Cond.code yX4_thousandths cX4_thousandths (5 : Nat) (Option.some FieldType.int)) ∈ TB := tb_of (List.mem_of_getElem? (i := 700) (by decide +kernel)) (by decide +kernel)
theorem w_701 : (Cond.constantLong "RamStation$Pump" (183 : Nat) (1000 : Int64)) ∈ TB := tb_of (List.mem_of_getElem? (i := 701) (by decide +kernel)) (by decide +kernel)
theorem w_702 : (Cond.methodLink "RamStationLaw" (171 : Nat) yX8_bestPump) ∈ TB := tb_of (List.mem_of_getElem? (i := 702) (by decide +kernel)) (by decide +kernel)
theorem w_703 : (Cond.instanceMethod yX8_bestPump) ∈ TB := tb_of (List.mem_of_getElem? (i := 703) (by decide +kernel)) (by decide +kernel)
theorem w_704 : (Cond.selects "RamStation" yX8_bestPump yX8_bestPump) ∈ TB := tb_of (List.mem_of_getElem? (i := 704) (by decide +kernel)) (by decide +kernel)
theorem w_705 : (Cond.code yX8_bestPump cX8_bestPump (5 : Nat) (Option.some FieldType.int)) ∈ TB := tb_of (List.mem_of_getElem? (i := 705) (by decide +kernel)) (by decide +kernel)
theorem w_706 : (Cond.methodLink "RamStation" (228 : Nat) yX8_efficiency) ∈ TB := tb_of (List.mem_of_getElem? (i := 706) (by decide +kernel)) (by decide +kernel)
theorem w_707 : (Cond.methodLink "RamStationLaw" (175 : Nat) yX8_ticksToSlam) ∈ TB := tb_of (List.mem_of_getElem? (i := 707) (by decide +kernel)) (by decide +kernel)
theorem w_708 : (Cond.instanceMethod yX8_ticksToSlam) ∈ TB := tb_of (List.mem_of_getElem? (i := 708) (by decide +kernel)) (by decide +kernel)
theorem w_709 : (Cond.selects "RamStation" yX8_ticksToSlam yX8_ticksToSlam) ∈ TB := tb_of (List.mem_of_getElem? (i := 709) (by decide +kernel)) (by decide +kernel)
theorem w_710 : (Cond.code yX8_ticksToSlam cX8_ticksToSlam (4 : Nat) (Option.some FieldType.int)) ∈ TB := tb_of (List.mem_of_getElem? (i := 710) (by decide +kernel)) (by decide +kernel)
theorem w_711 : (Cond.methodLink "RamStation" (231 : Nat) yX4_copyFrom) ∈ TB := tb_of (List.mem_of_getElem? (i := 711) (by decide +kernel)) (by decide +kernel)
theorem w_712 : (Cond.methodLink "RamStation" (234 : Nat) yX8_tickTrial) ∈ TB := tb_of (List.mem_of_getElem? (i := 712) (by decide +kernel)) (by decide +kernel)
theorem w_714 : (Cond.instanceMethod yX8_tickTrial) ∈ TB := tb_of (List.mem_of_getElem? (i := 714) (by decide +kernel)) (by decide +kernel)
theorem w_715 : (Cond.code yX8_tickTrial cX8_tickTrial (1 : Nat) (Option.none : Option FieldType)) ∈ TB := tb_of (List.mem_of_getElem? (i := 715) (by decide +kernel)) (by decide +kernel)
theorem w_716 : (Cond.constant "RamStation" (311 : Nat) (1000000 : Int32)) ∈ TB := tb_of (List.mem_of_getElem? (i := 716) (by decide +kernel)) (by decide +kernel)
theorem w_717 : (Cond.methodLink "RamStationLaw" (179 : Nat) yX8_deliveredIn) ∈ TB := tb_of (List.mem_of_getElem? (i := 717) (by decide +kernel)) (by decide +kernel)
theorem w_718 : (Cond.instanceMethod yX8_deliveredIn) ∈ TB := tb_of (List.mem_of_getElem? (i := 718) (by decide +kernel)) (by decide +kernel)
theorem w_719 : (Cond.selects "RamStation" yX8_deliveredIn yX8_deliveredIn) ∈ TB := tb_of (List.mem_of_getElem? (i := 719) (by decide +kernel)) (by decide +kernel)
theorem w_720 : (Cond.code yX8_deliveredIn cX8_deliveredIn (4 : Nat) (Option.some FieldType.int)) ∈ TB := tb_of (List.mem_of_getElem? (i := 720) (by decide +kernel)) (by decide +kernel)
theorem w_721 : (Cond.methodLink "RamStation" (240 : Nat) yX8_trialDelivery) ∈ TB := tb_of (List.mem_of_getElem? (i := 721) (by decide +kernel)) (by decide +kernel)
theorem w_723 : (Cond.instanceMethod yX8_trialDelivery) ∈ TB := tb_of (List.mem_of_getElem? (i := 723) (by decide +kernel)) (by decide +kernel)
theorem w_724 : (Cond.code yX8_trialDelivery cX8_trialDelivery (4 : Nat) (Option.some FieldType.int)) ∈ TB := tb_of (List.mem_of_getElem? (i := 724) (by decide +kernel)) (by decide +kernel)
theorem w_725 : (Cond.methodLink "RamStationLaw" (183 : Nat) yX8_drawnIn) ∈ TB := tb_of (List.mem_of_getElem? (i := 725) (by decide +kernel)) (by decide +kernel)
theorem w_726 : (Cond.instanceMethod yX8_drawnIn) ∈ TB := tb_of (List.mem_of_getElem? (i := 726) (by decide +kernel)) (by decide +kernel)
theorem w_727 : (Cond.selects "RamStation" yX8_drawnIn yX8_drawnIn) ∈ TB := tb_of (List.mem_of_getElem? (i := 727) (by decide +kernel)) (by decide +kernel)
theorem w_728 : (Cond.code yX8_drawnIn cX8_drawnIn (6 : Nat) (Option.some FieldType.int)) ∈ TB := tb_of (List.mem_of_getElem? (i := 728) (by decide +kernel)) (by decide +kernel)
theorem w_729 : (Cond.methodLink "RamStationLaw" (187 : Nat) yX8_period) ∈ TB := tb_of (List.mem_of_getElem? (i := 729) (by decide +kernel)) (by decide +kernel)
theorem w_730 : (Cond.instanceMethod yX8_period) ∈ TB := tb_of (List.mem_of_getElem? (i := 730) (by decide +kernel)) (by decide +kernel)
theorem w_731 : (Cond.selects "RamStation" yX8_period yX8_period) ∈ TB := tb_of (List.mem_of_getElem? (i := 731) (by decide +kernel)) (by decide +kernel)
theorem w_732 : (Cond.code yX8_period cX8_period (4 : Nat) (Option.some FieldType.int)) ∈ TB := tb_of (List.mem_of_getElem? (i := 732) (by decide +kernel)) (by decide +kernel)
theorem w_733 : (Cond.methodLink "RamStation" (246 : Nat) yX4_slamMark) ∈ TB := tb_of (List.mem_of_getElem? (i := 733) (by decide +kernel)) (by decide +kernel)
theorem w_734 : (Cond.instanceMethod yX4_slamMark) ∈ TB := tb_of (List.mem_of_getElem? (i := 734) (by decide +kernel)) (by decide +kernel)
theorem w_735 : (Cond.selects "RamStation$Pump" yX4_slamMark yX4_slamMark) ∈ TB := tb_of (List.mem_of_getElem? (i := 735) (by decide +kernel)) (by decide +kernel)
theorem w_736 : (Cond.code yX4_slamMark cX4_slamMark (1 : Nat) (Option.some FieldType.long)) ∈ TB := tb_of (List.mem_of_getElem? (i := 736) (by decide +kernel)) (by decide +kernel)
theorem w_737 : (Cond.constantLong "RamStation$Pump" (185 : Nat) (4096 : Int64)) ∈ TB := tb_of (List.mem_of_getElem? (i := 737) (by decide +kernel)) (by decide +kernel)
theorem w_738 : (Cond.constantLong "RamStation" (250 : Nat) (-1 : Int64)) ∈ TB := tb_of (List.mem_of_getElem? (i := 738) (by decide +kernel)) (by decide +kernel)
theorem w_739 : (Cond.methodLink "RamStation" (252 : Nat) yX8_ticksFromSlamLikeLast) ∈ TB := tb_of (List.mem_of_getElem? (i := 739) (by decide +kernel)) (by decide +kernel)
theorem w_741 : (Cond.instanceMethod yX8_ticksFromSlamLikeLast) ∈ TB := tb_of (List.mem_of_getElem? (i := 741) (by decide +kernel)) (by decide +kernel)
theorem w_742 : (Cond.code yX8_ticksFromSlamLikeLast cX8_ticksFromSlamLikeLast (7 : Nat) (Option.some FieldType.int)) ∈ TB := tb_of (List.mem_of_getElem? (i := 742) (by decide +kernel)) (by decide +kernel)
theorem w_743 : (Cond.methodLink "RamStationLaw" (191 : Nat) yX8_bestLength) ∈ TB := tb_of (List.mem_of_getElem? (i := 743) (by decide +kernel)) (by decide +kernel)
theorem w_744 : (Cond.instanceMethod yX8_bestLength) ∈ TB := tb_of (List.mem_of_getElem? (i := 744) (by decide +kernel)) (by decide +kernel)
theorem w_745 : (Cond.selects "RamStation" yX8_bestLength yX8_bestLength) ∈ TB := tb_of (List.mem_of_getElem? (i := 745) (by decide +kernel)) (by decide +kernel)
theorem w_746 : (Cond.code yX8_bestLength cX8_bestLength (8 : Nat) (Option.some FieldType.int)) ∈ TB := tb_of (List.mem_of_getElem? (i := 746) (by decide +kernel)) (by decide +kernel)
theorem w_747 : (Cond.methodLink "RamStation" (255 : Nat) yX8_deliveryFromRest) ∈ TB := tb_of (List.mem_of_getElem? (i := 747) (by decide +kernel)) (by decide +kernel)
theorem w_749 : (Cond.instanceMethod yX8_deliveryFromRest) ∈ TB := tb_of (List.mem_of_getElem? (i := 749) (by decide +kernel)) (by decide +kernel)
theorem w_750 : (Cond.code yX8_deliveryFromRest cX8_deliveryFromRest (5 : Nat) (Option.some FieldType.int)) ∈ TB := tb_of (List.mem_of_getElem? (i := 750) (by decide +kernel)) (by decide +kernel)
theorem w_751 : (Cond.methodLink "RamStationLaw" (195 : Nat) yX8_bestSetting) ∈ TB := tb_of (List.mem_of_getElem? (i := 751) (by decide +kernel)) (by decide +kernel)
theorem w_752 : (Cond.instanceMethod yX8_bestSetting) ∈ TB := tb_of (List.mem_of_getElem? (i := 752) (by decide +kernel)) (by decide +kernel)
theorem w_753 : (Cond.selects "RamStation" yX8_bestSetting yX8_bestSetting) ∈ TB := tb_of (List.mem_of_getElem? (i := 753) (by decide +kernel)) (by decide +kernel)
theorem w_754 : (Cond.code yX8_bestSetting cX8_bestSetting (8 : Nat) (Option.some FieldType.int)) ∈ TB := tb_of (List.mem_of_getElem? (i := 754) (by decide +kernel)) (by decide +kernel)
theorem w_755 : (Cond.classLink "RamStationLaw" (10 : Nat) "RamStationModel") ∈ TB := tb_of (List.mem_of_getElem? (i := 755) (by decide +kernel)) (by decide +kernel)
theorem w_756 : (Cond.instantiable "RamStationModel" (19 : Nat)) ∈ TB := tb_of (List.mem_of_getElem? (i := 756) (by decide +kernel)) (by decide +kernel)
theorem w_757 : (Cond.methodLink "RamStationLaw" (12 : Nat) yX9_init) ∈ TB := tb_of (List.mem_of_getElem? (i := 757) (by decide +kernel)) (by decide +kernel)
theorem w_758 : (Cond.instanceMethod yX9_init) ∈ TB := tb_of (List.mem_of_getElem? (i := 758) (by decide +kernel)) (by decide +kernel)
theorem w_759 : (Cond.code yX9_init cX9_init (1 : Nat) (Option.none : Option FieldType)) ∈ TB := tb_of (List.mem_of_getElem? (i := 759) (by decide +kernel)) (by decide +kernel)
theorem w_760 : (Cond.methodLink "RamStationModel" (1 : Nat) ({ cls := "java/lang/Object", name := "<init>", desc := "()V" } : Jvm.MethodName)) ∈ TB := tb_of (List.mem_of_getElem? (i := 760) (by decide +kernel)) (by decide +kernel)
theorem w_761 : (Cond.fieldLink "RamStationModel" (7 : Nat) "RamStationModel" "now" "[I") ∈ TB := tb_of (List.mem_of_getElem? (i := 761) (by decide +kernel)) (by decide +kernel)
theorem w_762 : (Cond.fieldLink "RamStationModel" (13 : Nat) "RamStationModel" "past" "[I") ∈ TB := tb_of (List.mem_of_getElem? (i := 762) (by decide +kernel)) (by decide +kernel)
theorem w_763 : (Cond.fieldLink "RamStationModel" (43 : Nat) "RamStationModel" "recorded" "I") ∈ TB := tb_of (List.mem_of_getElem? (i := 763) (by decide +kernel)) (by decide +kernel)
theorem w_764 : (Cond.fieldLink "RamStationModel" (16 : Nat) "RamStationModel" "kinds" "[I") ∈ TB := tb_of (List.mem_of_getElem? (i := 764) (by decide +kernel)) (by decide +kernel)
theorem w_765 : (Cond.fieldLink "RamStationModel" (19 : Nat) "RamStationModel" "pumpsOf" "[I") ∈ TB := tb_of (List.mem_of_getElem? (i := 765) (by decide +kernel)) (by decide +kernel)
theorem w_766 : (Cond.fieldLink "RamStationModel" (22 : Nat) "RamStationModel" "times" "[I") ∈ TB := tb_of (List.mem_of_getElem? (i := 766) (by decide +kernel)) (by decide +kernel)
theorem w_767 : (Cond.fieldLink "RamStationModel" (46 : Nat) "RamStationModel" "happened" "I") ∈ TB := tb_of (List.mem_of_getElem? (i := 767) (by decide +kernel)) (by decide +kernel)
theorem w_768 : (Cond.fieldLink "RamStationModel" (49 : Nat) "RamStationModel" "slammed" "Z") ∈ TB := tb_of (List.mem_of_getElem? (i := 768) (by decide +kernel)) (by decide +kernel)
theorem w_769 : (Cond.fieldLink "RamStationModel" (81 : Nat) "RamStationModel" "drawn" "I") ∈ TB := tb_of (List.mem_of_getElem? (i := 769) (by decide +kernel)) (by decide +kernel)
theorem w_770 : (Cond.fieldLink "RamStationModel" (78 : Nat) "RamStationModel" "delivered" "I") ∈ TB := tb_of (List.mem_of_getElem? (i := 770) (by decide +kernel)) (by decide +kernel)
theorem w_771 : (Cond.fieldLink "RamStationModel" (25 : Nat) "RamStationModel" "text" "[I") ∈ TB := tb_of (List.mem_of_getElem? (i := 771) (by decide +kernel)) (by decide +kernel)
theorem w_772 : (Cond.fieldLink "RamStationModel" (145 : Nat) "RamStationModel" "texted" "I") ∈ TB := tb_of (List.mem_of_getElem? (i := 772) (by decide +kernel)) (by decide +kernel)
theorem w_773 : (Cond.fieldLink "RamStationModel" (28 : Nat) "RamStationModel" "failed" "I") ∈ TB := tb_of (List.mem_of_getElem? (i := 773) (by decide +kernel)) (by decide +kernel)
theorem w_774 : (Cond.fieldLink "RamStationModel" (148 : Nat) "RamStationModel" "at0" "I") ∈ TB := tb_of (List.mem_of_getElem? (i := 774) (by decide +kernel)) (by decide +kernel)
theorem w_775 : (Cond.fieldLink "RamStationModel" (151 : Nat) "RamStationModel" "wrong" "Z") ∈ TB := tb_of (List.mem_of_getElem? (i := 775) (by decide +kernel)) (by decide +kernel)
theorem w_776 : (Cond.fieldLink "RamStationModel" (161 : Nat) "RamStationModel" "letter" "I") ∈ TB := tb_of (List.mem_of_getElem? (i := 776) (by decide +kernel)) (by decide +kernel)
theorem w_777 : (Cond.fieldLink "RamStationModel" (164 : Nat) "RamStationModel" "which" "I") ∈ TB := tb_of (List.mem_of_getElem? (i := 777) (by decide +kernel)) (by decide +kernel)
theorem w_778 : (Cond.fieldLink "RamStationModel" (173 : Nat) "RamStationModel" "value" "I") ∈ TB := tb_of (List.mem_of_getElem? (i := 778) (by decide +kernel)) (by decide +kernel)
theorem w_779 : (Cond.fieldLink "RamStationModel" (32 : Nat) "RamStationModel" "slams" "[I") ∈ TB := tb_of (List.mem_of_getElem? (i := 779) (by decide +kernel)) (by decide +kernel)
theorem w_780 : (Cond.laysFinal "RamStationModel" "RamStationModel" "now" "[I") ∈ TB := tb_of (List.mem_of_getElem? (i := 780) (by decide +kernel)) (by decide +kernel)
theorem w_782 : (Cond.laysFinal "RamStationModel" "RamStationModel" "past" "[I") ∈ TB := tb_of (List.mem_of_getElem? (i := 782) (by decide +kernel)) (by decide +kernel)
theorem w_784 : (Cond.lays "RamStationModel" "RamStationModel" "recorded" "I") ∈ TB := tb_of (List.mem_of_getElem? (i := 784) (by decide +kernel)) (by decide +kernel)
theorem w_786 : (Cond.laysFinal "RamStationModel" "RamStationModel" "kinds" "[I") ∈ TB := tb_of (List.mem_of_getElem? (i := 786) (by decide +kernel)) (by decide +kernel)
theorem w_788 : (Cond.laysFinal "RamStationModel" "RamStationModel" "pumpsOf" "[I") ∈ TB := tb_of (List.mem_of_getElem? (i := 788) (by decide +kernel)) (by decide +kernel)
theorem w_790 : (Cond.laysFinal "RamStationModel" "RamStationModel" "times" "[I") ∈ TB := tb_of (List.mem_of_getElem? (i := 790) (by decide +kernel)) (by decide +kernel)
theorem w_792 : (Cond.lays "RamStationModel" "RamStationModel" "happened" "I") ∈ TB := tb_of (List.mem_of_getElem? (i := 792) (by decide +kernel)) (by decide +kernel)
theorem w_794 : (Cond.lays "RamStationModel" "RamStationModel" "slammed" "Z") ∈ TB := tb_of (List.mem_of_getElem? (i := 794) (by decide +kernel)) (by decide +kernel)
theorem w_796 : (Cond.lays "RamStationModel" "RamStationModel" "drawn" "I") ∈ TB := tb_of (List.mem_of_getElem? (i := 796) (by decide +kernel)) (by decide +kernel)
theorem w_798 : (Cond.lays "RamStationModel" "RamStationModel" "delivered" "I") ∈ TB := tb_of (List.mem_of_getElem? (i := 798) (by decide +kernel)) (by decide +kernel)
theorem w_800 : (Cond.laysFinal "RamStationModel" "RamStationModel" "text" "[I") ∈ TB := tb_of (List.mem_of_getElem? (i := 800) (by decide +kernel)) (by decide +kernel)
theorem w_802 : (Cond.lays "RamStationModel" "RamStationModel" "texted" "I") ∈ TB := tb_of (List.mem_of_getElem? (i := 802) (by decide +kernel)) (by decide +kernel)
theorem w_804 : (Cond.lays "RamStationModel" "RamStationModel" "failed" "I") ∈ TB := tb_of (List.mem_of_getElem? (i := 804) (by decide +kernel)) (by decide +kernel)
theorem w_806 : (Cond.lays "RamStationModel" "RamStationModel" "at0" "I") ∈ TB := tb_of (List.mem_of_getElem? (i := 806) (by decide +kernel)) (by decide +kernel)
theorem w_808 : (Cond.lays "RamStationModel" "RamStationModel" "wrong" "Z") ∈ TB := tb_of (List.mem_of_getElem? (i := 808) (by decide +kernel)) (by decide +kernel)
theorem w_810 : (Cond.lays "RamStationModel" "RamStationModel" "letter" "I") ∈ TB := tb_of (List.mem_of_getElem? (i := 810) (by decide +kernel)) (by decide +kernel)
theorem w_812 : (Cond.lays "RamStationModel" "RamStationModel" "which" "I") ∈ TB := tb_of (List.mem_of_getElem? (i := 812) (by decide +kernel)) (by decide +kernel)
theorem w_814 : (Cond.lays "RamStationModel" "RamStationModel" "value" "I") ∈ TB := tb_of (List.mem_of_getElem? (i := 814) (by decide +kernel)) (by decide +kernel)
theorem w_816 : (Cond.laysFinal "RamStationModel" "RamStationModel" "slams" "[I") ∈ TB := tb_of (List.mem_of_getElem? (i := 816) (by decide +kernel)) (by decide +kernel)
theorem w_819 : (Cond.methodLink "RamStationLaw" (53 : Nat) yX9_undo) ∈ TB := tb_of (List.mem_of_getElem? (i := 819) (by decide +kernel)) (by decide +kernel)
theorem w_820 : (Cond.instanceMethod yX9_undo) ∈ TB := tb_of (List.mem_of_getElem? (i := 820) (by decide +kernel)) (by decide +kernel)
theorem w_821 : (Cond.selects "RamStationModel" yX9_undo yX9_undo) ∈ TB := tb_of (List.mem_of_getElem? (i := 821) (by decide +kernel)) (by decide +kernel)
theorem w_822 : (Cond.code yX9_undo cX9_undo (2 : Nat) (Option.some FieldType.int)) ∈ TB := tb_of (List.mem_of_getElem? (i := 822) (by decide +kernel)) (by decide +kernel)
theorem w_823 : (Cond.methodLink "RamStationLaw" (17 : Nat) yX9_addPump) ∈ TB := tb_of (List.mem_of_getElem? (i := 823) (by decide +kernel)) (by decide +kernel)
theorem w_824 : (Cond.instanceMethod yX9_addPump) ∈ TB := tb_of (List.mem_of_getElem? (i := 824) (by decide +kernel)) (by decide +kernel)
theorem w_825 : (Cond.selects "RamStationModel" yX9_addPump yX9_addPump) ∈ TB := tb_of (List.mem_of_getElem? (i := 825) (by decide +kernel)) (by decide +kernel)
theorem w_826 : (Cond.code yX9_addPump cX9_addPump (9 : Nat) (Option.some FieldType.int)) ∈ TB := tb_of (List.mem_of_getElem? (i := 826) (by decide +kernel)) (by decide +kernel)
theorem w_827 : (Cond.methodLink "RamStationModel" (35 : Nat) yX9_in) ∈ TB := tb_of (List.mem_of_getElem? (i := 827) (by decide +kernel)) (by decide +kernel)
theorem w_828 : (Cond.static yX9_in) ∈ TB := tb_of (List.mem_of_getElem? (i := 828) (by decide +kernel)) (by decide +kernel)
theorem w_829 : (Cond.code yX9_in cX9_in (3 : Nat) (Option.some FieldType.boolean)) ∈ TB := tb_of (List.mem_of_getElem? (i := 829) (by decide +kernel)) (by decide +kernel)
theorem w_830 : (Cond.methodLink "RamStationModel" (103 : Nat) yX9_record) ∈ TB := tb_of (List.mem_of_getElem? (i := 830) (by decide +kernel)) (by decide +kernel)
theorem w_832 : (Cond.instanceMethod yX9_record) ∈ TB := tb_of (List.mem_of_getElem? (i := 832) (by decide +kernel)) (by decide +kernel)
theorem w_833 : (Cond.code yX9_record cX9_record (2 : Nat) (Option.none : Option FieldType)) ∈ TB := tb_of (List.mem_of_getElem? (i := 833) (by decide +kernel)) (by decide +kernel)
theorem w_834 : (Cond.methodLink "RamStationModel" (39 : Nat) yX9_at) ∈ TB := tb_of (List.mem_of_getElem? (i := 834) (by decide +kernel)) (by decide +kernel)
theorem w_835 : (Cond.static yX9_at) ∈ TB := tb_of (List.mem_of_getElem? (i := 835) (by decide +kernel)) (by decide +kernel)
theorem w_836 : (Cond.code yX9_at cX9_at (1 : Nat) (Option.some FieldType.int)) ∈ TB := tb_of (List.mem_of_getElem? (i := 836) (by decide +kernel)) (by decide +kernel)
theorem w_837 : (Cond.methodLink "RamStationLaw" (22 : Nat) yX9_setValve) ∈ TB := tb_of (List.mem_of_getElem? (i := 837) (by decide +kernel)) (by decide +kernel)
theorem w_838 : (Cond.instanceMethod yX9_setValve) ∈ TB := tb_of (List.mem_of_getElem? (i := 838) (by decide +kernel)) (by decide +kernel)
theorem w_839 : (Cond.selects "RamStationModel" yX9_setValve yX9_setValve) ∈ TB := tb_of (List.mem_of_getElem? (i := 839) (by decide +kernel)) (by decide +kernel)
theorem w_840 : (Cond.code yX9_setValve cX9_setValve (5 : Nat) (Option.some FieldType.int)) ∈ TB := tb_of (List.mem_of_getElem? (i := 840) (by decide +kernel)) (by decide +kernel)
theorem w_841 : (Cond.methodLink "RamStationModel" (109 : Nat) yX9_valveRefused) ∈ TB := tb_of (List.mem_of_getElem? (i := 841) (by decide +kernel)) (by decide +kernel)
theorem w_843 : (Cond.instanceMethod yX9_valveRefused) ∈ TB := tb_of (List.mem_of_getElem? (i := 843) (by decide +kernel)) (by decide +kernel)
theorem w_844 : (Cond.code yX9_valveRefused cX9_valveRefused (4 : Nat) (Option.some FieldType.int)) ∈ TB := tb_of (List.mem_of_getElem? (i := 844) (by decide +kernel)) (by decide +kernel)
theorem w_845 : (Cond.methodLink "RamStationModel" (106 : Nat) yX9_isPump) ∈ TB := tb_of (List.mem_of_getElem? (i := 845) (by decide +kernel)) (by decide +kernel)
theorem w_847 : (Cond.instanceMethod yX9_isPump) ∈ TB := tb_of (List.mem_of_getElem? (i := 847) (by decide +kernel)) (by decide +kernel)
theorem w_848 : (Cond.code yX9_isPump cX9_isPump (2 : Nat) (Option.some FieldType.boolean)) ∈ TB := tb_of (List.mem_of_getElem? (i := 848) (by decide +kernel)) (by decide +kernel)
theorem w_849 : (Cond.methodLink "RamStationModel" (113 : Nat) yX9_valveNow) ∈ TB := tb_of (List.mem_of_getElem? (i := 849) (by decide +kernel)) (by decide +kernel)
theorem w_851 : (Cond.instanceMethod yX9_valveNow) ∈ TB := tb_of (List.mem_of_getElem? (i := 851) (by decide +kernel)) (by decide +kernel)
theorem w_852 : (Cond.code yX9_valveNow cX9_valveNow (6 : Nat) (Option.some FieldType.int)) ∈ TB := tb_of (List.mem_of_getElem? (i := 852) (by decide +kernel)) (by decide +kernel)
theorem w_853 : (Cond.methodLink "RamStationLaw" (27 : Nat) yX9_setChamber) ∈ TB := tb_of (List.mem_of_getElem? (i := 853) (by decide +kernel)) (by decide +kernel)
theorem w_854 : (Cond.instanceMethod yX9_setChamber) ∈ TB := tb_of (List.mem_of_getElem? (i := 854) (by decide +kernel)) (by decide +kernel)
theorem w_855 : (Cond.selects "RamStationModel" yX9_setChamber yX9_setChamber) ∈ TB := tb_of (List.mem_of_getElem? (i := 855) (by decide +kernel)) (by decide +kernel)
theorem w_856 : (Cond.code yX9_setChamber cX9_setChamber (6 : Nat) (Option.some FieldType.int)) ∈ TB := tb_of (List.mem_of_getElem? (i := 856) (by decide +kernel)) (by decide +kernel)
theorem w_857 : (Cond.methodLink "RamStationModel" (97 : Nat) yX9_fill) ∈ TB := tb_of (List.mem_of_getElem? (i := 857) (by decide +kernel)) (by decide +kernel)
theorem w_859 : (Cond.instanceMethod yX9_fill) ∈ TB := tb_of (List.mem_of_getElem? (i := 859) (by decide +kernel)) (by decide +kernel)
theorem w_860 : (Cond.code yX9_fill cX9_fill (2 : Nat) (Option.none : Option FieldType)) ∈ TB := tb_of (List.mem_of_getElem? (i := 860) (by decide +kernel)) (by decide +kernel)
theorem w_861 : (Cond.methodLink "RamStationLaw" (32 : Nat) yX9_setInflow) ∈ TB := tb_of (List.mem_of_getElem? (i := 861) (by decide +kernel)) (by decide +kernel)
theorem w_862 : (Cond.instanceMethod yX9_setInflow) ∈ TB := tb_of (List.mem_of_getElem? (i := 862) (by decide +kernel)) (by decide +kernel)
theorem w_863 : (Cond.selects "RamStationModel" yX9_setInflow yX9_setInflow) ∈ TB := tb_of (List.mem_of_getElem? (i := 863) (by decide +kernel)) (by decide +kernel)
theorem w_864 : (Cond.code yX9_setInflow cX9_setInflow (2 : Nat) (Option.some FieldType.int)) ∈ TB := tb_of (List.mem_of_getElem? (i := 864) (by decide +kernel)) (by decide +kernel)
theorem w_865 : (Cond.methodLink "RamStationModel" (116 : Nat) yX9_inflowNow) ∈ TB := tb_of (List.mem_of_getElem? (i := 865) (by decide +kernel)) (by decide +kernel)
theorem w_867 : (Cond.instanceMethod yX9_inflowNow) ∈ TB := tb_of (List.mem_of_getElem? (i := 867) (by decide +kernel)) (by decide +kernel)
theorem w_868 : (Cond.code yX9_inflowNow cX9_inflowNow (3 : Nat) (Option.some FieldType.int)) ∈ TB := tb_of (List.mem_of_getElem? (i := 868) (by decide +kernel)) (by decide +kernel)
theorem w_869 : (Cond.methodLink "RamStationLaw" (36 : Nat) yX9_start) ∈ TB := tb_of (List.mem_of_getElem? (i := 869) (by decide +kernel)) (by decide +kernel)
theorem w_870 : (Cond.instanceMethod yX9_start) ∈ TB := tb_of (List.mem_of_getElem? (i := 870) (by decide +kernel)) (by decide +kernel)
theorem w_871 : (Cond.selects "RamStationModel" yX9_start yX9_start) ∈ TB := tb_of (List.mem_of_getElem? (i := 871) (by decide +kernel)) (by decide +kernel)
theorem w_872 : (Cond.code yX9_start cX9_start (3 : Nat) (Option.some FieldType.int)) ∈ TB := tb_of (List.mem_of_getElem? (i := 872) (by decide +kernel)) (by decide +kernel)
theorem w_873 : (Cond.methodLink "RamStationModel" (123 : Nat) yX9_runRefused) ∈ TB := tb_of (List.mem_of_getElem? (i := 873) (by decide +kernel)) (by decide +kernel)
theorem w_875 : (Cond.instanceMethod yX9_runRefused) ∈ TB := tb_of (List.mem_of_getElem? (i := 875) (by decide +kernel)) (by decide +kernel)
theorem w_876 : (Cond.code yX9_runRefused cX9_runRefused (3 : Nat) (Option.some FieldType.int)) ∈ TB := tb_of (List.mem_of_getElem? (i := 876) (by decide +kernel)) (by decide +kernel)
theorem w_877 : (Cond.methodLink "RamStationModel" (127 : Nat) yX9_startNow) ∈ TB := tb_of (List.mem_of_getElem? (i := 877) (by decide +kernel)) (by decide +kernel)
theorem w_879 : (Cond.instanceMethod yX9_startNow) ∈ TB := tb_of (List.mem_of_getElem? (i := 879) (by decide +kernel)) (by decide +kernel)
theorem w_880 : (Cond.code yX9_startNow cX9_startNow (2 : Nat) (Option.some FieldType.int)) ∈ TB := tb_of (List.mem_of_getElem? (i := 880) (by decide +kernel)) (by decide +kernel)
theorem w_881 : (Cond.methodLink "RamStationModel" (119 : Nat) yX9_running) ∈ TB := tb_of (List.mem_of_getElem? (i := 881) (by decide +kernel)) (by decide +kernel)
theorem w_883 : (Cond.instanceMethod yX9_running) ∈ TB := tb_of (List.mem_of_getElem? (i := 883) (by decide +kernel)) (by decide +kernel)
theorem w_884 : (Cond.code yX9_running cX9_running (3 : Nat) (Option.some FieldType.int)) ∈ TB := tb_of (List.mem_of_getElem? (i := 884) (by decide +kernel)) (by decide +kernel)
theorem w_885 : (Cond.methodLink "RamStationLaw" (40 : Nat) yX9_stop) ∈ TB := tb_of (List.mem_of_getElem? (i := 885) (by decide +kernel)) (by decide +kernel)
theorem w_886 : (Cond.instanceMethod yX9_stop) ∈ TB := tb_of (List.mem_of_getElem? (i := 886) (by decide +kernel)) (by decide +kernel)
theorem w_887 : (Cond.selects "RamStationModel" yX9_stop yX9_stop) ∈ TB := tb_of (List.mem_of_getElem? (i := 887) (by decide +kernel)) (by decide +kernel)
theorem w_888 : (Cond.code yX9_stop cX9_stop (3 : Nat) (Option.some FieldType.int)) ∈ TB := tb_of (List.mem_of_getElem? (i := 888) (by decide +kernel)) (by decide +kernel)
theorem w_889 : (Cond.methodLink "RamStationModel" (130 : Nat) yX9_stopNow) ∈ TB := tb_of (List.mem_of_getElem? (i := 889) (by decide +kernel)) (by decide +kernel)
theorem w_891 : (Cond.instanceMethod yX9_stopNow) ∈ TB := tb_of (List.mem_of_getElem? (i := 891) (by decide +kernel)) (by decide +kernel)
theorem w_892 : (Cond.code yX9_stopNow cX9_stopNow (2 : Nat) (Option.some FieldType.int)) ∈ TB := tb_of (List.mem_of_getElem? (i := 892) (by decide +kernel)) (by decide +kernel)
theorem w_893 : (Cond.methodLink "RamStationModel" (75 : Nat) yX9_open) ∈ TB := tb_of (List.mem_of_getElem? (i := 893) (by decide +kernel)) (by decide +kernel)
theorem w_895 : (Cond.instanceMethod yX9_open) ∈ TB := tb_of (List.mem_of_getElem? (i := 895) (by decide +kernel)) (by decide +kernel)
theorem w_896 : (Cond.code yX9_open cX9_open (2 : Nat) (Option.none : Option FieldType)) ∈ TB := tb_of (List.mem_of_getElem? (i := 896) (by decide +kernel)) (by decide +kernel)
theorem w_897 : (Cond.methodLink "RamStationLaw" (44 : Nat) yX9_emptyTank) ∈ TB := tb_of (List.mem_of_getElem? (i := 897) (by decide +kernel)) (by decide +kernel)
theorem w_898 : (Cond.instanceMethod yX9_emptyTank) ∈ TB := tb_of (List.mem_of_getElem? (i := 898) (by decide +kernel)) (by decide +kernel)
theorem w_899 : (Cond.selects "RamStationModel" yX9_emptyTank yX9_emptyTank) ∈ TB := tb_of (List.mem_of_getElem? (i := 899) (by decide +kernel)) (by decide +kernel)
theorem w_900 : (Cond.code yX9_emptyTank cX9_emptyTank (3 : Nat) (Option.some FieldType.int)) ∈ TB := tb_of (List.mem_of_getElem? (i := 900) (by decide +kernel)) (by decide +kernel)
theorem w_901 : (Cond.methodLink "RamStationModel" (133 : Nat) yX9_tankRefused) ∈ TB := tb_of (List.mem_of_getElem? (i := 901) (by decide +kernel)) (by decide +kernel)
theorem w_903 : (Cond.instanceMethod yX9_tankRefused) ∈ TB := tb_of (List.mem_of_getElem? (i := 903) (by decide +kernel)) (by decide +kernel)
theorem w_904 : (Cond.code yX9_tankRefused cX9_tankRefused (2 : Nat) (Option.some FieldType.int)) ∈ TB := tb_of (List.mem_of_getElem? (i := 904) (by decide +kernel)) (by decide +kernel)
theorem w_905 : (Cond.methodLink "RamStationModel" (136 : Nat) yX9_tankNow) ∈ TB := tb_of (List.mem_of_getElem? (i := 905) (by decide +kernel)) (by decide +kernel)
theorem w_907 : (Cond.instanceMethod yX9_tankNow) ∈ TB := tb_of (List.mem_of_getElem? (i := 907) (by decide +kernel)) (by decide +kernel)
theorem w_908 : (Cond.code yX9_tankNow cX9_tankNow (3 : Nat) (Option.some FieldType.int)) ∈ TB := tb_of (List.mem_of_getElem? (i := 908) (by decide +kernel)) (by decide +kernel)
theorem w_909 : (Cond.methodLink "RamStationLaw" (48 : Nat) yX9_pass) ∈ TB := tb_of (List.mem_of_getElem? (i := 909) (by decide +kernel)) (by decide +kernel)
theorem w_910 : (Cond.instanceMethod yX9_pass) ∈ TB := tb_of (List.mem_of_getElem? (i := 910) (by decide +kernel)) (by decide +kernel)
theorem w_911 : (Cond.selects "RamStationModel" yX9_pass yX9_pass) ∈ TB := tb_of (List.mem_of_getElem? (i := 911) (by decide +kernel)) (by decide +kernel)
theorem w_912 : (Cond.code yX9_pass cX9_pass (3 : Nat) (Option.some FieldType.int)) ∈ TB := tb_of (List.mem_of_getElem? (i := 912) (by decide +kernel)) (by decide +kernel)
theorem w_913 : (Cond.methodLink "RamStationModel" (139 : Nat) yX9_passRefused) ∈ TB := tb_of (List.mem_of_getElem? (i := 913) (by decide +kernel)) (by decide +kernel)
theorem w_915 : (Cond.instanceMethod yX9_passRefused) ∈ TB := tb_of (List.mem_of_getElem? (i := 915) (by decide +kernel)) (by decide +kernel)
theorem w_916 : (Cond.code yX9_passRefused cX9_passRefused (2 : Nat) (Option.some FieldType.int)) ∈ TB := tb_of (List.mem_of_getElem? (i := 916) (by decide +kernel)) (by decide +kernel)
theorem w_917 : (Cond.methodLink "RamStationModel" (142 : Nat) yX9_passNow) ∈ TB := tb_of (List.mem_of_getElem? (i := 917) (by decide +kernel)) (by decide +kernel)
theorem w_919 : (Cond.instanceMethod yX9_passNow) ∈ TB := tb_of (List.mem_of_getElem? (i := 919) (by decide +kernel)) (by decide +kernel)
theorem w_920 : (Cond.code yX9_passNow cX9_passNow (4 : Nat) (Option.some FieldType.int)) ∈ TB := tb_of (List.mem_of_getElem? (i := 920) (by decide +kernel)) (by decide +kernel)
theorem w_921 : (Cond.methodLink "RamStationModel" (100 : Nat) yX9_tick) ∈ TB := tb_of (List.mem_of_getElem? (i := 921) (by decide +kernel)) (by decide +kernel)
theorem w_923 : (Cond.instanceMethod yX9_tick) ∈ TB := tb_of (List.mem_of_getElem? (i := 923) (by decide +kernel)) (by decide +kernel)
theorem w_924 : (Cond.code yX9_tick cX9_tick (4 : Nat) (Option.none : Option FieldType)) ∈ TB := tb_of (List.mem_of_getElem? (i := 924) (by decide +kernel)) (by decide +kernel)
theorem w_925 : (Cond.methodLink "RamStationModel" (60 : Nat) yX9_incident) ∈ TB := tb_of (List.mem_of_getElem? (i := 925) (by decide +kernel)) (by decide +kernel)
theorem w_927 : (Cond.instanceMethod yX9_incident) ∈ TB := tb_of (List.mem_of_getElem? (i := 927) (by decide +kernel)) (by decide +kernel)
theorem w_928 : (Cond.code yX9_incident cX9_incident (4 : Nat) (Option.none : Option FieldType)) ∈ TB := tb_of (List.mem_of_getElem? (i := 928) (by decide +kernel)) (by decide +kernel)
theorem w_929 : (Cond.methodLink "RamStationModel" (84 : Nat) yX9_gain) ∈ TB := tb_of (List.mem_of_getElem? (i := 929) (by decide +kernel)) (by decide +kernel)
theorem w_931 : (Cond.instanceMethod yX9_gain) ∈ TB := tb_of (List.mem_of_getElem? (i := 931) (by decide +kernel)) (by decide +kernel)
theorem w_932 : (Cond.code yX9_gain cX9_gain (6 : Nat) (Option.none : Option FieldType)) ∈ TB := tb_of (List.mem_of_getElem? (i := 932) (by decide +kernel)) (by decide +kernel)
theorem w_933 : (Cond.constant "RamStationModel" (64 : Nat) (100000 : Int32)) ∈ TB := tb_of (List.mem_of_getElem? (i := 933) (by decide +kernel)) (by decide +kernel)
theorem w_934 : (Cond.methodLink "RamStationModel" (65 : Nat) yX9_slamsBy) ∈ TB := tb_of (List.mem_of_getElem? (i := 934) (by decide +kernel)) (by decide +kernel)
theorem w_936 : (Cond.instanceMethod yX9_slamsBy) ∈ TB := tb_of (List.mem_of_getElem? (i := 936) (by decide +kernel)) (by decide +kernel)
theorem w_937 : (Cond.code yX9_slamsBy cX9_slamsBy (4 : Nat) (Option.some FieldType.boolean)) ∈ TB := tb_of (List.mem_of_getElem? (i := 937) (by decide +kernel)) (by decide +kernel)
theorem w_938 : (Cond.methodLink "RamStationModel" (69 : Nat) yX9_slam) ∈ TB := tb_of (List.mem_of_getElem? (i := 938) (by decide +kernel)) (by decide +kernel)
theorem w_940 : (Cond.instanceMethod yX9_slam) ∈ TB := tb_of (List.mem_of_getElem? (i := 940) (by decide +kernel)) (by decide +kernel)
theorem w_941 : (Cond.code yX9_slam cX9_slam (5 : Nat) (Option.none : Option FieldType)) ∈ TB := tb_of (List.mem_of_getElem? (i := 941) (by decide +kernel)) (by decide +kernel)
theorem w_942 : (Cond.methodLink "RamStationModel" (53 : Nat) yX9_addInterval) ∈ TB := tb_of (List.mem_of_getElem? (i := 942) (by decide +kernel)) (by decide +kernel)
theorem w_944 : (Cond.instanceMethod yX9_addInterval) ∈ TB := tb_of (List.mem_of_getElem? (i := 944) (by decide +kernel)) (by decide +kernel)
theorem w_945 : (Cond.code yX9_addInterval cX9_addInterval (3 : Nat) (Option.none : Option FieldType)) ∈ TB := tb_of (List.mem_of_getElem? (i := 945) (by decide +kernel)) (by decide +kernel)
theorem w_946 : (Cond.methodLink "RamStationModel" (57 : Nat) yX9_leastSpace) ∈ TB := tb_of (List.mem_of_getElem? (i := 946) (by decide +kernel)) (by decide +kernel)
theorem w_948 : (Cond.instanceMethod yX9_leastSpace) ∈ TB := tb_of (List.mem_of_getElem? (i := 948) (by decide +kernel)) (by decide +kernel)
theorem w_949 : (Cond.code yX9_leastSpace cX9_leastSpace (2 : Nat) (Option.some FieldType.int)) ∈ TB := tb_of (List.mem_of_getElem? (i := 949) (by decide +kernel)) (by decide +kernel)
theorem w_950 : (Cond.methodLink "RamStationModel" (88 : Nat) yX9_push) ∈ TB := tb_of (List.mem_of_getElem? (i := 950) (by decide +kernel)) (by decide +kernel)
theorem w_952 : (Cond.instanceMethod yX9_push) ∈ TB := tb_of (List.mem_of_getElem? (i := 952) (by decide +kernel)) (by decide +kernel)
theorem w_953 : (Cond.code yX9_push cX9_push (8 : Nat) (Option.none : Option FieldType)) ∈ TB := tb_of (List.mem_of_getElem? (i := 953) (by decide +kernel)) (by decide +kernel)
theorem w_954 : (Cond.methodLink "RamStationModel" (72 : Nat) yX9_head) ∈ TB := tb_of (List.mem_of_getElem? (i := 954) (by decide +kernel)) (by decide +kernel)
theorem w_956 : (Cond.instanceMethod yX9_head) ∈ TB := tb_of (List.mem_of_getElem? (i := 956) (by decide +kernel)) (by decide +kernel)
theorem w_957 : (Cond.code yX9_head cX9_head (3 : Nat) (Option.some FieldType.int)) ∈ TB := tb_of (List.mem_of_getElem? (i := 957) (by decide +kernel)) (by decide +kernel)
theorem w_958 : (Cond.methodLink "RamStationModel" (91 : Nat) yX9_deliver) ∈ TB := tb_of (List.mem_of_getElem? (i := 958) (by decide +kernel)) (by decide +kernel)
theorem w_960 : (Cond.instanceMethod yX9_deliver) ∈ TB := tb_of (List.mem_of_getElem? (i := 960) (by decide +kernel)) (by decide +kernel)
theorem w_961 : (Cond.code yX9_deliver cX9_deliver (6 : Nat) (Option.none : Option FieldType)) ∈ TB := tb_of (List.mem_of_getElem? (i := 961) (by decide +kernel)) (by decide +kernel)
theorem w_962 : (Cond.methodLink "RamStationModel" (94 : Nat) yX9_addTrace) ∈ TB := tb_of (List.mem_of_getElem? (i := 962) (by decide +kernel)) (by decide +kernel)
theorem w_964 : (Cond.instanceMethod yX9_addTrace) ∈ TB := tb_of (List.mem_of_getElem? (i := 964) (by decide +kernel)) (by decide +kernel)
theorem w_965 : (Cond.code yX9_addTrace cX9_addTrace (3 : Nat) (Option.none : Option FieldType)) ∈ TB := tb_of (List.mem_of_getElem? (i := 965) (by decide +kernel)) (by decide +kernel)
theorem w_966 : (Cond.methodLink "RamStationLaw" (57 : Nat) yX9_type) ∈ TB := tb_of (List.mem_of_getElem? (i := 966) (by decide +kernel)) (by decide +kernel)
theorem w_967 : (Cond.instanceMethod yX9_type) ∈ TB := tb_of (List.mem_of_getElem? (i := 967) (by decide +kernel)) (by decide +kernel)
theorem w_968 : (Cond.selects "RamStationModel" yX9_type yX9_type) ∈ TB := tb_of (List.mem_of_getElem? (i := 968) (by decide +kernel)) (by decide +kernel)
theorem w_969 : (Cond.code yX9_type cX9_type (2 : Nat) (Option.some FieldType.int)) ∈ TB := tb_of (List.mem_of_getElem? (i := 969) (by decide +kernel)) (by decide +kernel)
theorem w_970 : (Cond.methodLink "RamStationLaw" (61 : Nat) yX9_clearText) ∈ TB := tb_of (List.mem_of_getElem? (i := 970) (by decide +kernel)) (by decide +kernel)
theorem w_971 : (Cond.instanceMethod yX9_clearText) ∈ TB := tb_of (List.mem_of_getElem? (i := 971) (by decide +kernel)) (by decide +kernel)
theorem w_972 : (Cond.selects "RamStationModel" yX9_clearText yX9_clearText) ∈ TB := tb_of (List.mem_of_getElem? (i := 972) (by decide +kernel)) (by decide +kernel)
theorem w_973 : (Cond.code yX9_clearText cX9_clearText (2 : Nat) (Option.some FieldType.int)) ∈ TB := tb_of (List.mem_of_getElem? (i := 973) (by decide +kernel)) (by decide +kernel)
theorem w_974 : (Cond.methodLink "RamStationLaw" (65 : Nat) yX9_syntaxError) ∈ TB := tb_of (List.mem_of_getElem? (i := 974) (by decide +kernel)) (by decide +kernel)
theorem w_975 : (Cond.instanceMethod yX9_syntaxError) ∈ TB := tb_of (List.mem_of_getElem? (i := 975) (by decide +kernel)) (by decide +kernel)
theorem w_976 : (Cond.selects "RamStationModel" yX9_syntaxError yX9_syntaxError) ∈ TB := tb_of (List.mem_of_getElem? (i := 976) (by decide +kernel)) (by decide +kernel)
theorem w_977 : (Cond.code yX9_syntaxError cX9_syntaxError (1 : Nat) (Option.some FieldType.int)) ∈ TB := tb_of (List.mem_of_getElem? (i := 977) (by decide +kernel)) (by decide +kernel)
theorem w_978 : (Cond.methodLink "RamStationModel" (179 : Nat) yX9_check) ∈ TB := tb_of (List.mem_of_getElem? (i := 978) (by decide +kernel)) (by decide +kernel)
theorem w_980 : (Cond.instanceMethod yX9_check) ∈ TB := tb_of (List.mem_of_getElem? (i := 980) (by decide +kernel)) (by decide +kernel)
theorem w_981 : (Cond.code yX9_check cX9_check (1 : Nat) (Option.some FieldType.int)) ∈ TB := tb_of (List.mem_of_getElem? (i := 981) (by decide +kernel)) (by decide +kernel)
theorem w_982 : (Cond.methodLink "RamStationModel" (176 : Nat) yX9_readCommand) ∈ TB := tb_of (List.mem_of_getElem? (i := 982) (by decide +kernel)) (by decide +kernel)
theorem w_984 : (Cond.instanceMethod yX9_readCommand) ∈ TB := tb_of (List.mem_of_getElem? (i := 984) (by decide +kernel)) (by decide +kernel)
theorem w_985 : (Cond.code yX9_readCommand cX9_readCommand (2 : Nat) (Option.none : Option FieldType)) ∈ TB := tb_of (List.mem_of_getElem? (i := 985) (by decide +kernel)) (by decide +kernel)
theorem w_986 : (Cond.methodLink "RamStationModel" (158 : Nat) yX9_digit) ∈ TB := tb_of (List.mem_of_getElem? (i := 986) (by decide +kernel)) (by decide +kernel)
theorem w_988 : (Cond.instanceMethod yX9_digit) ∈ TB := tb_of (List.mem_of_getElem? (i := 988) (by decide +kernel)) (by decide +kernel)
theorem w_989 : (Cond.code yX9_digit cX9_digit (2 : Nat) (Option.some FieldType.int)) ∈ TB := tb_of (List.mem_of_getElem? (i := 989) (by decide +kernel)) (by decide +kernel)
theorem w_990 : (Cond.methodLink "RamStationModel" (154 : Nat) yX9_isDigit) ∈ TB := tb_of (List.mem_of_getElem? (i := 990) (by decide +kernel)) (by decide +kernel)
theorem w_992 : (Cond.instanceMethod yX9_isDigit) ∈ TB := tb_of (List.mem_of_getElem? (i := 992) (by decide +kernel)) (by decide +kernel)
theorem w_993 : (Cond.code yX9_isDigit cX9_isDigit (1 : Nat) (Option.some FieldType.boolean)) ∈ TB := tb_of (List.mem_of_getElem? (i := 993) (by decide +kernel)) (by decide +kernel)
theorem w_994 : (Cond.methodLink "RamStationModel" (167 : Nat) yX9_sign) ∈ TB := tb_of (List.mem_of_getElem? (i := 994) (by decide +kernel)) (by decide +kernel)
theorem w_996 : (Cond.instanceMethod yX9_sign) ∈ TB := tb_of (List.mem_of_getElem? (i := 996) (by decide +kernel)) (by decide +kernel)
theorem w_997 : (Cond.code yX9_sign cX9_sign (2 : Nat) (Option.none : Option FieldType)) ∈ TB := tb_of (List.mem_of_getElem? (i := 997) (by decide +kernel)) (by decide +kernel)
theorem w_998 : (Cond.methodLink "RamStationModel" (170 : Nat) yX9_number) ∈ TB := tb_of (List.mem_of_getElem? (i := 998) (by decide +kernel)) (by decide +kernel)
theorem w_1000 : (Cond.instanceMethod yX9_number) ∈ TB := tb_of (List.mem_of_getElem? (i := 1000) (by decide +kernel)) (by decide +kernel)
theorem w_1001 : (Cond.code yX9_number cX9_number (3 : Nat) (Option.some FieldType.int)) ∈ TB := tb_of (List.mem_of_getElem? (i := 1001) (by decide +kernel)) (by decide +kernel)
theorem w_1002 : (Cond.methodLink "RamStationLaw" (69 : Nat) yX9_execute) ∈ TB := tb_of (List.mem_of_getElem? (i := 1002) (by decide +kernel)) (by decide +kernel)
theorem w_1003 : (Cond.instanceMethod yX9_execute) ∈ TB := tb_of (List.mem_of_getElem? (i := 1003) (by decide +kernel)) (by decide +kernel)
theorem w_1004 : (Cond.selects "RamStationModel" yX9_execute yX9_execute) ∈ TB := tb_of (List.mem_of_getElem? (i := 1004) (by decide +kernel)) (by decide +kernel)
theorem w_1005 : (Cond.code yX9_execute cX9_execute (3 : Nat) (Option.some FieldType.int)) ∈ TB := tb_of (List.mem_of_getElem? (i := 1005) (by decide +kernel)) (by decide +kernel)
theorem w_1006 : (Cond.methodLink "RamStationModel" (182 : Nat) yX9_perform) ∈ TB := tb_of (List.mem_of_getElem? (i := 1006) (by decide +kernel)) (by decide +kernel)
theorem w_1008 : (Cond.instanceMethod yX9_perform) ∈ TB := tb_of (List.mem_of_getElem? (i := 1008) (by decide +kernel)) (by decide +kernel)
theorem w_1009 : (Cond.code yX9_perform cX9_perform (4 : Nat) (Option.some FieldType.int)) ∈ TB := tb_of (List.mem_of_getElem? (i := 1009) (by decide +kernel)) (by decide +kernel)
theorem w_1010 : (Cond.methodLink "RamStationLaw" (73 : Nat) yX9_failure) ∈ TB := tb_of (List.mem_of_getElem? (i := 1010) (by decide +kernel)) (by decide +kernel)
theorem w_1011 : (Cond.instanceMethod yX9_failure) ∈ TB := tb_of (List.mem_of_getElem? (i := 1011) (by decide +kernel)) (by decide +kernel)
theorem w_1012 : (Cond.selects "RamStationModel" yX9_failure yX9_failure) ∈ TB := tb_of (List.mem_of_getElem? (i := 1012) (by decide +kernel)) (by decide +kernel)
theorem w_1013 : (Cond.code yX9_failure cX9_failure (1 : Nat) (Option.some FieldType.int)) ∈ TB := tb_of (List.mem_of_getElem? (i := 1013) (by decide +kernel)) (by decide +kernel)
theorem w_1014 : (Cond.methodLink "RamStationLaw" (77 : Nat) yX9_time) ∈ TB := tb_of (List.mem_of_getElem? (i := 1014) (by decide +kernel)) (by decide +kernel)
theorem w_1015 : (Cond.instanceMethod yX9_time) ∈ TB := tb_of (List.mem_of_getElem? (i := 1015) (by decide +kernel)) (by decide +kernel)
theorem w_1016 : (Cond.selects "RamStationModel" yX9_time yX9_time) ∈ TB := tb_of (List.mem_of_getElem? (i := 1016) (by decide +kernel)) (by decide +kernel)
theorem w_1017 : (Cond.code yX9_time cX9_time (1 : Nat) (Option.some FieldType.int)) ∈ TB := tb_of (List.mem_of_getElem? (i := 1017) (by decide +kernel)) (by decide +kernel)
theorem w_1018 : (Cond.methodLink "RamStationLaw" (81 : Nat) yX9_basin) ∈ TB := tb_of (List.mem_of_getElem? (i := 1018) (by decide +kernel)) (by decide +kernel)
theorem w_1019 : (Cond.instanceMethod yX9_basin) ∈ TB := tb_of (List.mem_of_getElem? (i := 1019) (by decide +kernel)) (by decide +kernel)
theorem w_1020 : (Cond.selects "RamStationModel" yX9_basin yX9_basin) ∈ TB := tb_of (List.mem_of_getElem? (i := 1020) (by decide +kernel)) (by decide +kernel)
theorem w_1021 : (Cond.code yX9_basin cX9_basin (1 : Nat) (Option.some FieldType.int)) ∈ TB := tb_of (List.mem_of_getElem? (i := 1021) (by decide +kernel)) (by decide +kernel)
theorem w_1022 : (Cond.methodLink "RamStationLaw" (85 : Nat) yX9_spilled) ∈ TB := tb_of (List.mem_of_getElem? (i := 1022) (by decide +kernel)) (by decide +kernel)
theorem w_1023 : (Cond.instanceMethod yX9_spilled) ∈ TB := tb_of (List.mem_of_getElem? (i := 1023) (by decide +kernel)) (by decide +kernel)
theorem w_1024 : (Cond.selects "RamStationModel" yX9_spilled yX9_spilled) ∈ TB := tb_of (List.mem_of_getElem? (i := 1024) (by decide +kernel)) (by decide +kernel)
theorem w_1025 : (Cond.code yX9_spilled cX9_spilled (1 : Nat) (Option.some FieldType.int)) ∈ TB := tb_of (List.mem_of_getElem? (i := 1025) (by decide +kernel)) (by decide +kernel)
theorem w_1026 : (Cond.methodLink "RamStationLaw" (89 : Nat) yX9_pumps) ∈ TB := tb_of (List.mem_of_getElem? (i := 1026) (by decide +kernel)) (by decide +kernel)
theorem w_1027 : (Cond.instanceMethod yX9_pumps) ∈ TB := tb_of (List.mem_of_getElem? (i := 1027) (by decide +kernel)) (by decide +kernel)
theorem w_1028 : (Cond.selects "RamStationModel" yX9_pumps yX9_pumps) ∈ TB := tb_of (List.mem_of_getElem? (i := 1028) (by decide +kernel)) (by decide +kernel)
theorem w_1029 : (Cond.code yX9_pumps cX9_pumps (1 : Nat) (Option.some FieldType.int)) ∈ TB := tb_of (List.mem_of_getElem? (i := 1029) (by decide +kernel)) (by decide +kernel)
theorem w_1030 : (Cond.methodLink "RamStationLaw" (93 : Nat) yX9_incidents) ∈ TB := tb_of (List.mem_of_getElem? (i := 1030) (by decide +kernel)) (by decide +kernel)
theorem w_1031 : (Cond.instanceMethod yX9_incidents) ∈ TB := tb_of (List.mem_of_getElem? (i := 1031) (by decide +kernel)) (by decide +kernel)
theorem w_1032 : (Cond.selects "RamStationModel" yX9_incidents yX9_incidents) ∈ TB := tb_of (List.mem_of_getElem? (i := 1032) (by decide +kernel)) (by decide +kernel)
theorem w_1033 : (Cond.code yX9_incidents cX9_incidents (1 : Nat) (Option.some FieldType.int)) ∈ TB := tb_of (List.mem_of_getElem? (i := 1033) (by decide +kernel)) (by decide +kernel)
theorem w_1034 : (Cond.methodLink "RamStationLaw" (97 : Nat) yX9_incidentKind) ∈ TB := tb_of (List.mem_of_getElem? (i := 1034) (by decide +kernel)) (by decide +kernel)
theorem w_1035 : (Cond.instanceMethod yX9_incidentKind) ∈ TB := tb_of (List.mem_of_getElem? (i := 1035) (by decide +kernel)) (by decide +kernel)
theorem w_1036 : (Cond.selects "RamStationModel" yX9_incidentKind yX9_incidentKind) ∈ TB := tb_of (List.mem_of_getElem? (i := 1036) (by decide +kernel)) (by decide +kernel)
theorem w_1037 : (Cond.code yX9_incidentKind cX9_incidentKind (3 : Nat) (Option.some FieldType.int)) ∈ TB := tb_of (List.mem_of_getElem? (i := 1037) (by decide +kernel)) (by decide +kernel)
theorem w_1038 : (Cond.methodLink "RamStationModel" (185 : Nat) yX9_place) ∈ TB := tb_of (List.mem_of_getElem? (i := 1038) (by decide +kernel)) (by decide +kernel)
theorem w_1040 : (Cond.instanceMethod yX9_place) ∈ TB := tb_of (List.mem_of_getElem? (i := 1040) (by decide +kernel)) (by decide +kernel)
theorem w_1041 : (Cond.code yX9_place cX9_place (2 : Nat) (Option.some FieldType.int)) ∈ TB := tb_of (List.mem_of_getElem? (i := 1041) (by decide +kernel)) (by decide +kernel)
theorem w_1042 : (Cond.methodLink "RamStationLaw" (101 : Nat) yX9_incidentPump) ∈ TB := tb_of (List.mem_of_getElem? (i := 1042) (by decide +kernel)) (by decide +kernel)
theorem w_1043 : (Cond.instanceMethod yX9_incidentPump) ∈ TB := tb_of (List.mem_of_getElem? (i := 1043) (by decide +kernel)) (by decide +kernel)
theorem w_1044 : (Cond.selects "RamStationModel" yX9_incidentPump yX9_incidentPump) ∈ TB := tb_of (List.mem_of_getElem? (i := 1044) (by decide +kernel)) (by decide +kernel)
theorem w_1045 : (Cond.code yX9_incidentPump cX9_incidentPump (3 : Nat) (Option.some FieldType.int)) ∈ TB := tb_of (List.mem_of_getElem? (i := 1045) (by decide +kernel)) (by decide +kernel)
theorem w_1046 : (Cond.methodLink "RamStationLaw" (105 : Nat) yX9_incidentTime) ∈ TB := tb_of (List.mem_of_getElem? (i := 1046) (by decide +kernel)) (by decide +kernel)
theorem w_1047 : (Cond.instanceMethod yX9_incidentTime) ∈ TB := tb_of (List.mem_of_getElem? (i := 1047) (by decide +kernel)) (by decide +kernel)
theorem w_1048 : (Cond.selects "RamStationModel" yX9_incidentTime yX9_incidentTime) ∈ TB := tb_of (List.mem_of_getElem? (i := 1048) (by decide +kernel)) (by decide +kernel)
theorem w_1049 : (Cond.code yX9_incidentTime cX9_incidentTime (3 : Nat) (Option.some FieldType.int)) ∈ TB := tb_of (List.mem_of_getElem? (i := 1049) (by decide +kernel)) (by decide +kernel)
theorem w_1050 : (Cond.methodLink "RamStationLaw" (109 : Nat) yX9_phase) ∈ TB := tb_of (List.mem_of_getElem? (i := 1050) (by decide +kernel)) (by decide +kernel)
theorem w_1051 : (Cond.instanceMethod yX9_phase) ∈ TB := tb_of (List.mem_of_getElem? (i := 1051) (by decide +kernel)) (by decide +kernel)
theorem w_1052 : (Cond.selects "RamStationModel" yX9_phase yX9_phase) ∈ TB := tb_of (List.mem_of_getElem? (i := 1052) (by decide +kernel)) (by decide +kernel)
theorem w_1053 : (Cond.code yX9_phase cX9_phase (2 : Nat) (Option.some FieldType.int)) ∈ TB := tb_of (List.mem_of_getElem? (i := 1053) (by decide +kernel)) (by decide +kernel)
theorem w_1054 : (Cond.methodLink "RamStationLaw" (113 : Nat) yX9_speed) ∈ TB := tb_of (List.mem_of_getElem? (i := 1054) (by decide +kernel)) (by decide +kernel)
theorem w_1055 : (Cond.instanceMethod yX9_speed) ∈ TB := tb_of (List.mem_of_getElem? (i := 1055) (by decide +kernel)) (by decide +kernel)
theorem w_1056 : (Cond.selects "RamStationModel" yX9_speed yX9_speed) ∈ TB := tb_of (List.mem_of_getElem? (i := 1056) (by decide +kernel)) (by decide +kernel)
theorem w_1057 : (Cond.code yX9_speed cX9_speed (2 : Nat) (Option.some FieldType.int)) ∈ TB := tb_of (List.mem_of_getElem? (i := 1057) (by decide +kernel)) (by decide +kernel)
theorem w_1058 : (Cond.methodLink "RamStationModel" (188 : Nat) yX9_told) ∈ TB := tb_of (List.mem_of_getElem? (i := 1058) (by decide +kernel)) (by decide +kernel)
theorem w_1060 : (Cond.instanceMethod yX9_told) ∈ TB := tb_of (List.mem_of_getElem? (i := 1060) (by decide +kernel)) (by decide +kernel)
theorem w_1061 : (Cond.code yX9_told cX9_told (3 : Nat) (Option.some FieldType.int)) ∈ TB := tb_of (List.mem_of_getElem? (i := 1061) (by decide +kernel)) (by decide +kernel)
theorem w_1062 : (Cond.methodLink "RamStationLaw" (117 : Nat) yX9_openTicks) ∈ TB := tb_of (List.mem_of_getElem? (i := 1062) (by decide +kernel)) (by decide +kernel)
theorem w_1063 : (Cond.instanceMethod yX9_openTicks) ∈ TB := tb_of (List.mem_of_getElem? (i := 1063) (by decide +kernel)) (by decide +kernel)
theorem w_1064 : (Cond.selects "RamStationModel" yX9_openTicks yX9_openTicks) ∈ TB := tb_of (List.mem_of_getElem? (i := 1064) (by decide +kernel)) (by decide +kernel)
theorem w_1065 : (Cond.code yX9_openTicks cX9_openTicks (2 : Nat) (Option.some FieldType.int)) ∈ TB := tb_of (List.mem_of_getElem? (i := 1065) (by decide +kernel)) (by decide +kernel)
theorem w_1066 : (Cond.methodLink "RamStationLaw" (121 : Nat) yX9_chamberWater) ∈ TB := tb_of (List.mem_of_getElem? (i := 1066) (by decide +kernel)) (by decide +kernel)
theorem w_1067 : (Cond.instanceMethod yX9_chamberWater) ∈ TB := tb_of (List.mem_of_getElem? (i := 1067) (by decide +kernel)) (by decide +kernel)
theorem w_1068 : (Cond.selects "RamStationModel" yX9_chamberWater yX9_chamberWater) ∈ TB := tb_of (List.mem_of_getElem? (i := 1068) (by decide +kernel)) (by decide +kernel)
theorem w_1069 : (Cond.code yX9_chamberWater cX9_chamberWater (2 : Nat) (Option.some FieldType.int)) ∈ TB := tb_of (List.mem_of_getElem? (i := 1069) (by decide +kernel)) (by decide +kernel)
theorem w_1070 : (Cond.methodLink "RamStationLaw" (125 : Nat) yX9_air) ∈ TB := tb_of (List.mem_of_getElem? (i := 1070) (by decide +kernel)) (by decide +kernel)
theorem w_1071 : (Cond.instanceMethod yX9_air) ∈ TB := tb_of (List.mem_of_getElem? (i := 1071) (by decide +kernel)) (by decide +kernel)
theorem w_1072 : (Cond.selects "RamStationModel" yX9_air yX9_air) ∈ TB := tb_of (List.mem_of_getElem? (i := 1072) (by decide +kernel)) (by decide +kernel)
theorem w_1073 : (Cond.code yX9_air cX9_air (2 : Nat) (Option.some FieldType.int)) ∈ TB := tb_of (List.mem_of_getElem? (i := 1073) (by decide +kernel)) (by decide +kernel)
theorem w_1074 : (Cond.methodLink "RamStationLaw" (129 : Nat) yX9_chamberHead) ∈ TB := tb_of (List.mem_of_getElem? (i := 1074) (by decide +kernel)) (by decide +kernel)
theorem w_1075 : (Cond.instanceMethod yX9_chamberHead) ∈ TB := tb_of (List.mem_of_getElem? (i := 1075) (by decide +kernel)) (by decide +kernel)
theorem w_1076 : (Cond.selects "RamStationModel" yX9_chamberHead yX9_chamberHead) ∈ TB := tb_of (List.mem_of_getElem? (i := 1076) (by decide +kernel)) (by decide +kernel)
theorem w_1077 : (Cond.code yX9_chamberHead cX9_chamberHead (2 : Nat) (Option.some FieldType.int)) ∈ TB := tb_of (List.mem_of_getElem? (i := 1077) (by decide +kernel)) (by decide +kernel)
theorem w_1078 : (Cond.methodLink "RamStationLaw" (133 : Nat) yX9_beats) ∈ TB := tb_of (List.mem_of_getElem? (i := 1078) (by decide +kernel)) (by decide +kernel)
theorem w_1079 : (Cond.instanceMethod yX9_beats) ∈ TB := tb_of (List.mem_of_getElem? (i := 1079) (by decide +kernel)) (by decide +kernel)
theorem w_1080 : (Cond.selects "RamStationModel" yX9_beats yX9_beats) ∈ TB := tb_of (List.mem_of_getElem? (i := 1080) (by decide +kernel)) (by decide +kernel)
theorem w_1081 : (Cond.code yX9_beats cX9_beats (2 : Nat) (Option.some FieldType.int)) ∈ TB := tb_of (List.mem_of_getElem? (i := 1081) (by decide +kernel)) (by decide +kernel)
theorem w_1082 : (Cond.methodLink "RamStationLaw" (137 : Nat) yX9_wasted) ∈ TB := tb_of (List.mem_of_getElem? (i := 1082) (by decide +kernel)) (by decide +kernel)
theorem w_1083 : (Cond.instanceMethod yX9_wasted) ∈ TB := tb_of (List.mem_of_getElem? (i := 1083) (by decide +kernel)) (by decide +kernel)
theorem w_1084 : (Cond.selects "RamStationModel" yX9_wasted yX9_wasted) ∈ TB := tb_of (List.mem_of_getElem? (i := 1084) (by decide +kernel)) (by decide +kernel)
theorem w_1085 : (Cond.code yX9_wasted cX9_wasted (2 : Nat) (Option.some FieldType.int)) ∈ TB := tb_of (List.mem_of_getElem? (i := 1085) (by decide +kernel)) (by decide +kernel)
theorem w_1086 : (Cond.methodLink "RamStationLaw" (141 : Nat) yX9_relieved) ∈ TB := tb_of (List.mem_of_getElem? (i := 1086) (by decide +kernel)) (by decide +kernel)
theorem w_1087 : (Cond.instanceMethod yX9_relieved) ∈ TB := tb_of (List.mem_of_getElem? (i := 1087) (by decide +kernel)) (by decide +kernel)
theorem w_1088 : (Cond.selects "RamStationModel" yX9_relieved yX9_relieved) ∈ TB := tb_of (List.mem_of_getElem? (i := 1088) (by decide +kernel)) (by decide +kernel)
theorem w_1089 : (Cond.code yX9_relieved cX9_relieved (2 : Nat) (Option.some FieldType.int)) ∈ TB := tb_of (List.mem_of_getElem? (i := 1089) (by decide +kernel)) (by decide +kernel)
theorem w_1090 : (Cond.methodLink "RamStationLaw" (145 : Nat) yX9_lifted) ∈ TB := tb_of (List.mem_of_getElem? (i := 1090) (by decide +kernel)) (by decide +kernel)
theorem w_1091 : (Cond.instanceMethod yX9_lifted) ∈ TB := tb_of (List.mem_of_getElem? (i := 1091) (by decide +kernel)) (by decide +kernel)
theorem w_1092 : (Cond.selects "RamStationModel" yX9_lifted yX9_lifted) ∈ TB := tb_of (List.mem_of_getElem? (i := 1092) (by decide +kernel)) (by decide +kernel)
theorem w_1093 : (Cond.code yX9_lifted cX9_lifted (2 : Nat) (Option.some FieldType.int)) ∈ TB := tb_of (List.mem_of_getElem? (i := 1093) (by decide +kernel)) (by decide +kernel)
theorem w_1094 : (Cond.methodLink "RamStationLaw" (149 : Nat) yX9_overflowed) ∈ TB := tb_of (List.mem_of_getElem? (i := 1094) (by decide +kernel)) (by decide +kernel)
theorem w_1095 : (Cond.instanceMethod yX9_overflowed) ∈ TB := tb_of (List.mem_of_getElem? (i := 1095) (by decide +kernel)) (by decide +kernel)
theorem w_1096 : (Cond.selects "RamStationModel" yX9_overflowed yX9_overflowed) ∈ TB := tb_of (List.mem_of_getElem? (i := 1096) (by decide +kernel)) (by decide +kernel)
theorem w_1097 : (Cond.code yX9_overflowed cX9_overflowed (2 : Nat) (Option.some FieldType.int)) ∈ TB := tb_of (List.mem_of_getElem? (i := 1097) (by decide +kernel)) (by decide +kernel)
theorem w_1098 : (Cond.methodLink "RamStationLaw" (153 : Nat) yX9_starved) ∈ TB := tb_of (List.mem_of_getElem? (i := 1098) (by decide +kernel)) (by decide +kernel)
theorem w_1099 : (Cond.instanceMethod yX9_starved) ∈ TB := tb_of (List.mem_of_getElem? (i := 1099) (by decide +kernel)) (by decide +kernel)
theorem w_1100 : (Cond.selects "RamStationModel" yX9_starved yX9_starved) ∈ TB := tb_of (List.mem_of_getElem? (i := 1100) (by decide +kernel)) (by decide +kernel)
theorem w_1101 : (Cond.code yX9_starved cX9_starved (2 : Nat) (Option.some FieldType.int)) ∈ TB := tb_of (List.mem_of_getElem? (i := 1101) (by decide +kernel)) (by decide +kernel)
theorem w_1102 : (Cond.methodLink "RamStationLaw" (157 : Nat) yX9_tank) ∈ TB := tb_of (List.mem_of_getElem? (i := 1102) (by decide +kernel)) (by decide +kernel)
theorem w_1103 : (Cond.instanceMethod yX9_tank) ∈ TB := tb_of (List.mem_of_getElem? (i := 1103) (by decide +kernel)) (by decide +kernel)
theorem w_1104 : (Cond.selects "RamStationModel" yX9_tank yX9_tank) ∈ TB := tb_of (List.mem_of_getElem? (i := 1104) (by decide +kernel)) (by decide +kernel)
theorem w_1105 : (Cond.code yX9_tank cX9_tank (2 : Nat) (Option.some FieldType.int)) ∈ TB := tb_of (List.mem_of_getElem? (i := 1105) (by decide +kernel)) (by decide +kernel)
theorem w_1106 : (Cond.methodLink "RamStationLaw" (162 : Nat) yX9_interval) ∈ TB := tb_of (List.mem_of_getElem? (i := 1106) (by decide +kernel)) (by decide +kernel)
theorem w_1107 : (Cond.instanceMethod yX9_interval) ∈ TB := tb_of (List.mem_of_getElem? (i := 1107) (by decide +kernel)) (by decide +kernel)
theorem w_1108 : (Cond.selects "RamStationModel" yX9_interval yX9_interval) ∈ TB := tb_of (List.mem_of_getElem? (i := 1108) (by decide +kernel)) (by decide +kernel)
theorem w_1109 : (Cond.code yX9_interval cX9_interval (3 : Nat) (Option.some FieldType.int)) ∈ TB := tb_of (List.mem_of_getElem? (i := 1109) (by decide +kernel)) (by decide +kernel)
theorem w_1110 : (Cond.methodLink "RamStationModel" (191 : Nat) yX9_kept) ∈ TB := tb_of (List.mem_of_getElem? (i := 1110) (by decide +kernel)) (by decide +kernel)
theorem w_1112 : (Cond.instanceMethod yX9_kept) ∈ TB := tb_of (List.mem_of_getElem? (i := 1112) (by decide +kernel)) (by decide +kernel)
theorem w_1113 : (Cond.code yX9_kept cX9_kept (5 : Nat) (Option.some FieldType.int)) ∈ TB := tb_of (List.mem_of_getElem? (i := 1113) (by decide +kernel)) (by decide +kernel)
theorem w_1114 : (Cond.methodLink "RamStationLaw" (166 : Nat) yX9_trace) ∈ TB := tb_of (List.mem_of_getElem? (i := 1114) (by decide +kernel)) (by decide +kernel)
theorem w_1115 : (Cond.instanceMethod yX9_trace) ∈ TB := tb_of (List.mem_of_getElem? (i := 1115) (by decide +kernel)) (by decide +kernel)
theorem w_1116 : (Cond.selects "RamStationModel" yX9_trace yX9_trace) ∈ TB := tb_of (List.mem_of_getElem? (i := 1116) (by decide +kernel)) (by decide +kernel)
theorem w_1117 : (Cond.code yX9_trace cX9_trace (3 : Nat) (Option.some FieldType.int)) ∈ TB := tb_of (List.mem_of_getElem? (i := 1117) (by decide +kernel)) (by decide +kernel)
theorem w_1118 : (Cond.methodLink "RamStationLaw" (170 : Nat) yX9_efficiency) ∈ TB := tb_of (List.mem_of_getElem? (i := 1118) (by decide +kernel)) (by decide +kernel)
theorem w_1119 : (Cond.instanceMethod yX9_efficiency) ∈ TB := tb_of (List.mem_of_getElem? (i := 1119) (by decide +kernel)) (by decide +kernel)
theorem w_1120 : (Cond.selects "RamStationModel" yX9_efficiency yX9_efficiency) ∈ TB := tb_of (List.mem_of_getElem? (i := 1120) (by decide +kernel)) (by decide +kernel)
theorem w_1121 : (Cond.code yX9_efficiency cX9_efficiency (2 : Nat) (Option.some FieldType.int)) ∈ TB := tb_of (List.mem_of_getElem? (i := 1121) (by decide +kernel)) (by decide +kernel)
theorem w_1122 : (Cond.methodLink "RamStationModel" (197 : Nat) yX9_efficiencyOf) ∈ TB := tb_of (List.mem_of_getElem? (i := 1122) (by decide +kernel)) (by decide +kernel)
theorem w_1124 : (Cond.instanceMethod yX9_efficiencyOf) ∈ TB := tb_of (List.mem_of_getElem? (i := 1124) (by decide +kernel)) (by decide +kernel)
theorem w_1125 : (Cond.code yX9_efficiencyOf cX9_efficiencyOf (4 : Nat) (Option.some FieldType.int)) ∈ TB := tb_of (List.mem_of_getElem? (i := 1125) (by decide +kernel)) (by decide +kernel)
theorem w_1126 : (Cond.constantLong "RamStationModel" (195 : Nat) (1000 : Int64)) ∈ TB := tb_of (List.mem_of_getElem? (i := 1126) (by decide +kernel)) (by decide +kernel)
theorem w_1127 : (Cond.methodLink "RamStationLaw" (174 : Nat) yX9_bestPump) ∈ TB := tb_of (List.mem_of_getElem? (i := 1127) (by decide +kernel)) (by decide +kernel)
theorem w_1128 : (Cond.instanceMethod yX9_bestPump) ∈ TB := tb_of (List.mem_of_getElem? (i := 1128) (by decide +kernel)) (by decide +kernel)
theorem w_1129 : (Cond.selects "RamStationModel" yX9_bestPump yX9_bestPump) ∈ TB := tb_of (List.mem_of_getElem? (i := 1129) (by decide +kernel)) (by decide +kernel)
theorem w_1130 : (Cond.code yX9_bestPump cX9_bestPump (5 : Nat) (Option.some FieldType.int)) ∈ TB := tb_of (List.mem_of_getElem? (i := 1130) (by decide +kernel)) (by decide +kernel)
theorem w_1131 : (Cond.methodLink "RamStationLaw" (178 : Nat) yX9_ticksToSlam) ∈ TB := tb_of (List.mem_of_getElem? (i := 1131) (by decide +kernel)) (by decide +kernel)
theorem w_1132 : (Cond.instanceMethod yX9_ticksToSlam) ∈ TB := tb_of (List.mem_of_getElem? (i := 1132) (by decide +kernel)) (by decide +kernel)
theorem w_1133 : (Cond.selects "RamStationModel" yX9_ticksToSlam yX9_ticksToSlam) ∈ TB := tb_of (List.mem_of_getElem? (i := 1133) (by decide +kernel)) (by decide +kernel)
theorem w_1134 : (Cond.code yX9_ticksToSlam cX9_ticksToSlam (3 : Nat) (Option.some FieldType.int)) ∈ TB := tb_of (List.mem_of_getElem? (i := 1134) (by decide +kernel)) (by decide +kernel)
theorem w_1135 : (Cond.methodLink "RamStationModel" (200 : Nat) yX9_beginTrial) ∈ TB := tb_of (List.mem_of_getElem? (i := 1135) (by decide +kernel)) (by decide +kernel)
theorem w_1137 : (Cond.instanceMethod yX9_beginTrial) ∈ TB := tb_of (List.mem_of_getElem? (i := 1137) (by decide +kernel)) (by decide +kernel)
theorem w_1138 : (Cond.code yX9_beginTrial cX9_beginTrial (4 : Nat) (Option.none : Option FieldType)) ∈ TB := tb_of (List.mem_of_getElem? (i := 1138) (by decide +kernel)) (by decide +kernel)
theorem w_1139 : (Cond.methodLink "RamStationLaw" (182 : Nat) yX9_deliveredIn) ∈ TB := tb_of (List.mem_of_getElem? (i := 1139) (by decide +kernel)) (by decide +kernel)
theorem w_1140 : (Cond.instanceMethod yX9_deliveredIn) ∈ TB := tb_of (List.mem_of_getElem? (i := 1140) (by decide +kernel)) (by decide +kernel)
theorem w_1141 : (Cond.selects "RamStationModel" yX9_deliveredIn yX9_deliveredIn) ∈ TB := tb_of (List.mem_of_getElem? (i := 1141) (by decide +kernel)) (by decide +kernel)
theorem w_1142 : (Cond.code yX9_deliveredIn cX9_deliveredIn (4 : Nat) (Option.some FieldType.int)) ∈ TB := tb_of (List.mem_of_getElem? (i := 1142) (by decide +kernel)) (by decide +kernel)
theorem w_1143 : (Cond.methodLink "RamStationModel" (204 : Nat) yX9_trialRefused) ∈ TB := tb_of (List.mem_of_getElem? (i := 1143) (by decide +kernel)) (by decide +kernel)
theorem w_1145 : (Cond.instanceMethod yX9_trialRefused) ∈ TB := tb_of (List.mem_of_getElem? (i := 1145) (by decide +kernel)) (by decide +kernel)
theorem w_1146 : (Cond.code yX9_trialRefused cX9_trialRefused (4 : Nat) (Option.some FieldType.int)) ∈ TB := tb_of (List.mem_of_getElem? (i := 1146) (by decide +kernel)) (by decide +kernel)
theorem w_1147 : (Cond.methodLink "RamStationModel" (207 : Nat) yX9_goOn) ∈ TB := tb_of (List.mem_of_getElem? (i := 1147) (by decide +kernel)) (by decide +kernel)
theorem w_1149 : (Cond.instanceMethod yX9_goOn) ∈ TB := tb_of (List.mem_of_getElem? (i := 1149) (by decide +kernel)) (by decide +kernel)
theorem w_1150 : (Cond.code yX9_goOn cX9_goOn (3 : Nat) (Option.none : Option FieldType)) ∈ TB := tb_of (List.mem_of_getElem? (i := 1150) (by decide +kernel)) (by decide +kernel)
theorem w_1151 : (Cond.methodLink "RamStationLaw" (186 : Nat) yX9_drawnIn) ∈ TB := tb_of (List.mem_of_getElem? (i := 1151) (by decide +kernel)) (by decide +kernel)
theorem w_1152 : (Cond.instanceMethod yX9_drawnIn) ∈ TB := tb_of (List.mem_of_getElem? (i := 1152) (by decide +kernel)) (by decide +kernel)
theorem w_1153 : (Cond.selects "RamStationModel" yX9_drawnIn yX9_drawnIn) ∈ TB := tb_of (List.mem_of_getElem? (i := 1153) (by decide +kernel)) (by decide +kernel)
theorem w_1154 : (Cond.code yX9_drawnIn cX9_drawnIn (4 : Nat) (Option.some FieldType.int)) ∈ TB := tb_of (List.mem_of_getElem? (i := 1154) (by decide +kernel)) (by decide +kernel)
theorem w_1155 : (Cond.methodLink "RamStationLaw" (190 : Nat) yX9_period) ∈ TB := tb_of (List.mem_of_getElem? (i := 1155) (by decide +kernel)) (by decide +kernel)
theorem w_1156 : (Cond.instanceMethod yX9_period) ∈ TB := tb_of (List.mem_of_getElem? (i := 1156) (by decide +kernel)) (by decide +kernel)
theorem w_1157 : (Cond.selects "RamStationModel" yX9_period yX9_period) ∈ TB := tb_of (List.mem_of_getElem? (i := 1157) (by decide +kernel)) (by decide +kernel)
theorem w_1158 : (Cond.code yX9_period cX9_period (5 : Nat) (Option.some FieldType.int)) ∈ TB := tb_of (List.mem_of_getElem? (i := 1158) (by decide +kernel)) (by decide +kernel)
theorem w_1159 : (Cond.methodLink "RamStationLaw" (194 : Nat) yX9_bestLength) ∈ TB := tb_of (List.mem_of_getElem? (i := 1159) (by decide +kernel)) (by decide +kernel)
theorem w_1160 : (Cond.instanceMethod yX9_bestLength) ∈ TB := tb_of (List.mem_of_getElem? (i := 1160) (by decide +kernel)) (by decide +kernel)
theorem w_1161 : (Cond.selects "RamStationModel" yX9_bestLength yX9_bestLength) ∈ TB := tb_of (List.mem_of_getElem? (i := 1161) (by decide +kernel)) (by decide +kernel)
theorem w_1162 : (Cond.code yX9_bestLength cX9_bestLength (4 : Nat) (Option.some FieldType.int)) ∈ TB := tb_of (List.mem_of_getElem? (i := 1162) (by decide +kernel)) (by decide +kernel)
theorem w_1163 : (Cond.methodLink "RamStationModel" (210 : Nat) yX9_best) ∈ TB := tb_of (List.mem_of_getElem? (i := 1163) (by decide +kernel)) (by decide +kernel)
theorem w_1165 : (Cond.instanceMethod yX9_best) ∈ TB := tb_of (List.mem_of_getElem? (i := 1165) (by decide +kernel)) (by decide +kernel)
theorem w_1166 : (Cond.code yX9_best cX9_best (8 : Nat) (Option.some FieldType.int)) ∈ TB := tb_of (List.mem_of_getElem? (i := 1166) (by decide +kernel)) (by decide +kernel)
theorem w_1167 : (Cond.methodLink "RamStationLaw" (198 : Nat) yX9_bestSetting) ∈ TB := tb_of (List.mem_of_getElem? (i := 1167) (by decide +kernel)) (by decide +kernel)
theorem w_1168 : (Cond.instanceMethod yX9_bestSetting) ∈ TB := tb_of (List.mem_of_getElem? (i := 1168) (by decide +kernel)) (by decide +kernel)
theorem w_1169 : (Cond.selects "RamStationModel" yX9_bestSetting yX9_bestSetting) ∈ TB := tb_of (List.mem_of_getElem? (i := 1169) (by decide +kernel)) (by decide +kernel)
theorem w_1170 : (Cond.code yX9_bestSetting cX9_bestSetting (4 : Nat) (Option.some FieldType.int)) ∈ TB := tb_of (List.mem_of_getElem? (i := 1170) (by decide +kernel)) (by decide +kernel)
theorem w_0 : (Cond.selects "RamStation" yX8_keepState yX8_keepState) ∈ TB := tb_of (List.mem_of_getElem? (i := 0) (by decide +kernel)) (by decide +kernel)
theorem w_1 : (Cond.selects "RamStation" yX8_tickStation yX8_tickStation) ∈ TB := tb_of (List.mem_of_getElem? (i := 1) (by decide +kernel)) (by decide +kernel)
theorem w_2 : (Cond.selects "RamStation" yX8_noteIncidents yX8_noteIncidents) ∈ TB := tb_of (List.mem_of_getElem? (i := 2) (by decide +kernel)) (by decide +kernel)
theorem w_3 : (Cond.selects "RamStation" yX8_perform yX8_perform) ∈ TB := tb_of (List.mem_of_getElem? (i := 3) (by decide +kernel)) (by decide +kernel)
theorem w_4 : (Cond.selects "RamStation" yX8_valveKindOf yX8_valveKindOf) ∈ TB := tb_of (List.mem_of_getElem? (i := 4) (by decide +kernel)) (by decide +kernel)
theorem w_5 : (Cond.selects "RamStation" yX8_tickTrial yX8_tickTrial) ∈ TB := tb_of (List.mem_of_getElem? (i := 5) (by decide +kernel)) (by decide +kernel)
theorem w_6 : (Cond.selects "RamStation" yX8_trialDelivery yX8_trialDelivery) ∈ TB := tb_of (List.mem_of_getElem? (i := 6) (by decide +kernel)) (by decide +kernel)
theorem w_7 : (Cond.selects "RamStation" yX8_ticksFromSlamLikeLast yX8_ticksFromSlamLikeLast) ∈ TB := tb_of (List.mem_of_getElem? (i := 7) (by decide +kernel)) (by decide +kernel)
theorem w_8 : (Cond.selects "RamStation" yX8_deliveryFromRest yX8_deliveryFromRest) ∈ TB := tb_of (List.mem_of_getElem? (i := 8) (by decide +kernel)) (by decide +kernel)
theorem w_9 : (Cond.selects "RamStationModel" yX9_record yX9_record) ∈ TB := tb_of (List.mem_of_getElem? (i := 9) (by decide +kernel)) (by decide +kernel)
theorem w_10 : (Cond.selects "RamStationModel" yX9_valveRefused yX9_valveRefused) ∈ TB := tb_of (List.mem_of_getElem? (i := 10) (by decide +kernel)) (by decide +kernel)
theorem w_11 : (Cond.selects "RamStationModel" yX9_isPump yX9_isPump) ∈ TB := tb_of (List.mem_of_getElem? (i := 11) (by decide +kernel)) (by decide +kernel)
theorem w_12 : (Cond.selects "RamStationModel" yX9_valveNow yX9_valveNow) ∈ TB := tb_of (List.mem_of_getElem? (i := 12) (by decide +kernel)) (by decide +kernel)
theorem w_13 : (Cond.selects "RamStationModel" yX9_fill yX9_fill) ∈ TB := tb_of (List.mem_of_getElem? (i := 13) (by decide +kernel)) (by decide +kernel)
theorem w_14 : (Cond.selects "RamStationModel" yX9_inflowNow yX9_inflowNow) ∈ TB := tb_of (List.mem_of_getElem? (i := 14) (by decide +kernel)) (by decide +kernel)
theorem w_15 : (Cond.selects "RamStationModel" yX9_runRefused yX9_runRefused) ∈ TB := tb_of (List.mem_of_getElem? (i := 15) (by decide +kernel)) (by decide +kernel)
theorem w_16 : (Cond.selects "RamStationModel" yX9_startNow yX9_startNow) ∈ TB := tb_of (List.mem_of_getElem? (i := 16) (by decide +kernel)) (by decide +kernel)
theorem w_17 : (Cond.selects "RamStationModel" yX9_running yX9_running) ∈ TB := tb_of (List.mem_of_getElem? (i := 17) (by decide +kernel)) (by decide +kernel)
theorem w_18 : (Cond.selects "RamStationModel" yX9_stopNow yX9_stopNow) ∈ TB := tb_of (List.mem_of_getElem? (i := 18) (by decide +kernel)) (by decide +kernel)
theorem w_19 : (Cond.selects "RamStationModel" yX9_open yX9_open) ∈ TB := tb_of (List.mem_of_getElem? (i := 19) (by decide +kernel)) (by decide +kernel)
theorem w_20 : (Cond.selects "RamStationModel" yX9_tankRefused yX9_tankRefused) ∈ TB := tb_of (List.mem_of_getElem? (i := 20) (by decide +kernel)) (by decide +kernel)
theorem w_21 : (Cond.selects "RamStationModel" yX9_tankNow yX9_tankNow) ∈ TB := tb_of (List.mem_of_getElem? (i := 21) (by decide +kernel)) (by decide +kernel)
theorem w_22 : (Cond.selects "RamStationModel" yX9_passRefused yX9_passRefused) ∈ TB := tb_of (List.mem_of_getElem? (i := 22) (by decide +kernel)) (by decide +kernel)
theorem w_23 : (Cond.selects "RamStationModel" yX9_passNow yX9_passNow) ∈ TB := tb_of (List.mem_of_getElem? (i := 23) (by decide +kernel)) (by decide +kernel)
theorem w_24 : (Cond.selects "RamStationModel" yX9_tick yX9_tick) ∈ TB := tb_of (List.mem_of_getElem? (i := 24) (by decide +kernel)) (by decide +kernel)
theorem w_25 : (Cond.selects "RamStationModel" yX9_incident yX9_incident) ∈ TB := tb_of (List.mem_of_getElem? (i := 25) (by decide +kernel)) (by decide +kernel)
theorem w_26 : (Cond.selects "RamStationModel" yX9_gain yX9_gain) ∈ TB := tb_of (List.mem_of_getElem? (i := 26) (by decide +kernel)) (by decide +kernel)
theorem w_27 : (Cond.selects "RamStationModel" yX9_slamsBy yX9_slamsBy) ∈ TB := tb_of (List.mem_of_getElem? (i := 27) (by decide +kernel)) (by decide +kernel)
theorem w_28 : (Cond.selects "RamStationModel" yX9_slam yX9_slam) ∈ TB := tb_of (List.mem_of_getElem? (i := 28) (by decide +kernel)) (by decide +kernel)
theorem w_29 : (Cond.selects "RamStationModel" yX9_addInterval yX9_addInterval) ∈ TB := tb_of (List.mem_of_getElem? (i := 29) (by decide +kernel)) (by decide +kernel)
theorem w_30 : (Cond.selects "RamStationModel" yX9_leastSpace yX9_leastSpace) ∈ TB := tb_of (List.mem_of_getElem? (i := 30) (by decide +kernel)) (by decide +kernel)
theorem w_31 : (Cond.selects "RamStationModel" yX9_push yX9_push) ∈ TB := tb_of (List.mem_of_getElem? (i := 31) (by decide +kernel)) (by decide +kernel)
theorem w_32 : (Cond.selects "RamStationModel" yX9_head yX9_head) ∈ TB := tb_of (List.mem_of_getElem? (i := 32) (by decide +kernel)) (by decide +kernel)
theorem w_33 : (Cond.selects "RamStationModel" yX9_deliver yX9_deliver) ∈ TB := tb_of (List.mem_of_getElem? (i := 33) (by decide +kernel)) (by decide +kernel)
theorem w_34 : (Cond.selects "RamStationModel" yX9_addTrace yX9_addTrace) ∈ TB := tb_of (List.mem_of_getElem? (i := 34) (by decide +kernel)) (by decide +kernel)
theorem w_35 : (Cond.selects "RamStationModel" yX9_check yX9_check) ∈ TB := tb_of (List.mem_of_getElem? (i := 35) (by decide +kernel)) (by decide +kernel)
theorem w_36 : (Cond.selects "RamStationModel" yX9_readCommand yX9_readCommand) ∈ TB := tb_of (List.mem_of_getElem? (i := 36) (by decide +kernel)) (by decide +kernel)
theorem w_37 : (Cond.selects "RamStationModel" yX9_digit yX9_digit) ∈ TB := tb_of (List.mem_of_getElem? (i := 37) (by decide +kernel)) (by decide +kernel)
theorem w_38 : (Cond.selects "RamStationModel" yX9_isDigit yX9_isDigit) ∈ TB := tb_of (List.mem_of_getElem? (i := 38) (by decide +kernel)) (by decide +kernel)
theorem w_39 : (Cond.selects "RamStationModel" yX9_sign yX9_sign) ∈ TB := tb_of (List.mem_of_getElem? (i := 39) (by decide +kernel)) (by decide +kernel)
theorem w_40 : (Cond.selects "RamStationModel" yX9_number yX9_number) ∈ TB := tb_of (List.mem_of_getElem? (i := 40) (by decide +kernel)) (by decide +kernel)
theorem w_41 : (Cond.selects "RamStationModel" yX9_perform yX9_perform) ∈ TB := tb_of (List.mem_of_getElem? (i := 41) (by decide +kernel)) (by decide +kernel)
theorem w_42 : (Cond.selects "RamStationModel" yX9_place yX9_place) ∈ TB := tb_of (List.mem_of_getElem? (i := 42) (by decide +kernel)) (by decide +kernel)
theorem w_43 : (Cond.selects "RamStationModel" yX9_told yX9_told) ∈ TB := tb_of (List.mem_of_getElem? (i := 43) (by decide +kernel)) (by decide +kernel)
theorem w_44 : (Cond.selects "RamStationModel" yX9_kept yX9_kept) ∈ TB := tb_of (List.mem_of_getElem? (i := 44) (by decide +kernel)) (by decide +kernel)
theorem w_45 : (Cond.selects "RamStationModel" yX9_efficiencyOf yX9_efficiencyOf) ∈ TB := tb_of (List.mem_of_getElem? (i := 45) (by decide +kernel)) (by decide +kernel)
theorem w_46 : (Cond.selects "RamStationModel" yX9_beginTrial yX9_beginTrial) ∈ TB := tb_of (List.mem_of_getElem? (i := 46) (by decide +kernel)) (by decide +kernel)
theorem w_47 : (Cond.selects "RamStationModel" yX9_trialRefused yX9_trialRefused) ∈ TB := tb_of (List.mem_of_getElem? (i := 47) (by decide +kernel)) (by decide +kernel)
theorem w_48 : (Cond.selects "RamStationModel" yX9_goOn yX9_goOn) ∈ TB := tb_of (List.mem_of_getElem? (i := 48) (by decide +kernel)) (by decide +kernel)
theorem w_49 : (Cond.selects "RamStationModel" yX9_best yX9_best) ∈ TB := tb_of (List.mem_of_getElem? (i := 49) (by decide +kernel)) (by decide +kernel)
theorem in_X0 : ∀ w ∈ u_ws RX0 TX0 5, w ∈ TB := by
  intro w h
  obtain ⟨k, hk, rfl⟩ := List.mem_map.mp h
  have hk := List.mem_range.mp hk
  match k, hk with
  | 0, _ => exact w_100
  | 1, _ => exact w_102
  | 2, _ => exact w_104
  | 3, _ => exact w_106
  | 4, _ => exact w_108
  | k + 5, h => exact absurd h (by omega)
theorem in_X1 : ∀ w ∈ u_ws RX1 TX1 2, w ∈ TB := by
  intro w h
  obtain ⟨k, hk, rfl⟩ := List.mem_map.mp h
  have hk := List.mem_range.mp hk
  match k, hk with
  | 0, _ => exact w_270
  | 1, _ => exact w_272
  | k + 2, h => exact absurd h (by omega)
theorem in_X2 : ∀ w ∈ u_ws RX2 TX2 6, w ∈ TB := by
  intro w h
  obtain ⟨k, hk, rfl⟩ := List.mem_map.mp h
  have hk := List.mem_range.mp hk
  match k, hk with
  | 0, _ => exact w_135
  | 1, _ => exact w_137
  | 2, _ => exact w_139
  | 3, _ => exact w_141
  | 4, _ => exact w_143
  | 5, _ => exact w_145
  | k + 6, h => exact absurd h (by omega)
theorem in_X3 : ∀ w ∈ u_ws RX3 TX3 4, w ∈ TB := by
  intro w h
  obtain ⟨k, hk, rfl⟩ := List.mem_map.mp h
  have hk := List.mem_range.mp hk
  match k, hk with
  | 0, _ => exact w_292
  | 1, _ => exact w_294
  | 2, _ => exact w_296
  | 3, _ => exact w_298
  | k + 4, h => exact absurd h (by omega)
theorem in_X4 : ∀ w ∈ u_ws RX4 TX4 17, w ∈ TB := by
  intro w h
  obtain ⟨k, hk, rfl⟩ := List.mem_map.mp h
  have hk := List.mem_range.mp hk
  match k, hk with
  | 0, _ => exact w_199
  | 1, _ => exact w_201
  | 2, _ => exact w_203
  | 3, _ => exact w_205
  | 4, _ => exact w_207
  | 5, _ => exact w_209
  | 6, _ => exact w_211
  | 7, _ => exact w_213
  | 8, _ => exact w_215
  | 9, _ => exact w_217
  | 10, _ => exact w_219
  | 11, _ => exact w_221
  | 12, _ => exact w_223
  | 13, _ => exact w_225
  | 14, _ => exact w_227
  | 15, _ => exact w_229
  | 16, _ => exact w_231
  | k + 17, h => exact absurd h (by omega)
theorem in_X5 : ∀ w ∈ u_ws RX5 TX5 5, w ∈ TB := by
  intro w h
  obtain ⟨k, hk, rfl⟩ := List.mem_map.mp h
  have hk := List.mem_range.mp hk
  match k, hk with
  | 0, _ => exact w_322
  | 1, _ => exact w_324
  | 2, _ => exact w_326
  | 3, _ => exact w_328
  | 4, _ => exact w_330
  | k + 5, h => exact absurd h (by omega)
theorem in_X6 : ∀ w ∈ u_ws RX6 TX6 3, w ∈ TB := by
  intro w h
  obtain ⟨k, hk, rfl⟩ := List.mem_map.mp h
  have hk := List.mem_range.mp hk
  match k, hk with
  | 0, _ => exact w_160
  | 1, _ => exact w_162
  | 2, _ => exact w_164
  | k + 3, h => exact absurd h (by omega)
theorem in_X7 : ∀ w ∈ u_ws RX7 TX7 6, w ∈ TB := by
  intro w h
  obtain ⟨k, hk, rfl⟩ := List.mem_map.mp h
  have hk := List.mem_range.mp hk
  match k, hk with
  | 0, _ => exact w_246
  | 1, _ => exact w_248
  | 2, _ => exact w_250
  | 3, _ => exact w_252
  | 4, _ => exact w_254
  | 5, _ => exact w_256
  | k + 6, h => exact absurd h (by omega)
theorem in_X8 : ∀ w ∈ u_ws RX8 TX8 11, w ∈ TB := by
  intro w h
  obtain ⟨k, hk, rfl⟩ := List.mem_map.mp h
  have hk := List.mem_range.mp hk
  match k, hk with
  | 0, _ => exact w_346
  | 1, _ => exact w_348
  | 2, _ => exact w_350
  | 3, _ => exact w_352
  | 4, _ => exact w_354
  | 5, _ => exact w_356
  | 6, _ => exact w_358
  | 7, _ => exact w_360
  | 8, _ => exact w_362
  | 9, _ => exact w_364
  | 10, _ => exact w_366
  | k + 11, h => exact absurd h (by omega)
theorem in_X9 : ∀ w ∈ u_ws RX9 TX9 19, w ∈ TB := by
  intro w h
  obtain ⟨k, hk, rfl⟩ := List.mem_map.mp h
  have hk := List.mem_range.mp hk
  match k, hk with
  | 0, _ => exact w_780
  | 1, _ => exact w_782
  | 2, _ => exact w_784
  | 3, _ => exact w_786
  | 4, _ => exact w_788
  | 5, _ => exact w_790
  | 6, _ => exact w_792
  | 7, _ => exact w_794
  | 8, _ => exact w_796
  | 9, _ => exact w_798
  | 10, _ => exact w_800
  | 11, _ => exact w_802
  | 12, _ => exact w_804
  | 13, _ => exact w_806
  | 14, _ => exact w_808
  | 15, _ => exact w_810
  | 16, _ => exact w_812
  | 17, _ => exact w_814
  | 18, _ => exact w_816
  | k + 19, h => exact absurd h (by omega)
end
