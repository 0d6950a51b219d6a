-- ===== PART A: goes FIRST, ahead of the names: the tables' words, and 'selects' of the private methods out of them =====
/-- a private method of a class that the tables say can be made, by its rows of tables_1 -/
def lw_okq (q : MethodName × Nat) : Prop := (q.1.cls ≠ "java/lang/invoke/MethodHandle" ∧ q.1.cls ≠ "java/lang/invoke/VarHandle") ∧ Cond.instantiable q.1.cls q.2 ∈ tables_1 ∧ Cond.privateMethod q.1 ∈ tables_1 ∧ Cond.instanceMethod q.1 ∈ tables_1
theorem lw_p0 : lw_okq (⟨"MilkHorse", "textOf", "(I)LMilkHorse$Text;"⟩, 17) := ⟨⟨by decide +kernel, by decide +kernel⟩, List.mem_of_getElem? (i := 18) (by decide +kernel), List.mem_of_getElem? (i := 391) (by decide +kernel), List.mem_of_getElem? (i := 392) (by decide +kernel)⟩
theorem lw_p1 : lw_okq (⟨"MilkHorse", "hearTexts", "()V"⟩, 17) := ⟨⟨by decide +kernel, by decide +kernel⟩, List.mem_of_getElem? (i := 18) (by decide +kernel), List.mem_of_getElem? (i := 399) (by decide +kernel), List.mem_of_getElem? (i := 400) (by decide +kernel)⟩
theorem lw_p2 : lw_okq (⟨"MilkHorse", "forgetMornings", "()V"⟩, 17) := ⟨⟨by decide +kernel, by decide +kernel⟩, List.mem_of_getElem? (i := 18) (by decide +kernel), List.mem_of_getElem? (i := 411) (by decide +kernel), List.mem_of_getElem? (i := 412) (by decide +kernel)⟩
theorem lw_p3 : lw_okq (⟨"MilkHorse", "sheetOf", "(I)LMilkHorse$Sheet;"⟩, 17) := ⟨⟨by decide +kernel, by decide +kernel⟩, List.mem_of_getElem? (i := 18) (by decide +kernel), List.mem_of_getElem? (i := 479) (by decide +kernel), List.mem_of_getElem? (i := 480) (by decide +kernel)⟩
theorem lw_p4 : lw_okq (⟨"MilkHorse", "found", "(I)I"⟩, 17) := ⟨⟨by decide +kernel, by decide +kernel⟩, List.mem_of_getElem? (i := 18) (by decide +kernel), List.mem_of_getElem? (i := 483) (by decide +kernel), List.mem_of_getElem? (i := 484) (by decide +kernel)⟩
theorem lw_p5 : lw_okq (⟨"MilkHorse", "learnDay", "()V"⟩, 17) := ⟨⟨by decide +kernel, by decide +kernel⟩, List.mem_of_getElem? (i := 18) (by decide +kernel), List.mem_of_getElem? (i := 492) (by decide +kernel), List.mem_of_getElem? (i := 493) (by decide +kernel)⟩
theorem lw_p6 : lw_okq (⟨"MilkHorse$Walk", "begin", "(LMilkHorse$Plan;)V"⟩, 17) := ⟨⟨by decide +kernel, by decide +kernel⟩, List.mem_of_getElem? (i := 136) (by decide +kernel), List.mem_of_getElem? (i := 507) (by decide +kernel), List.mem_of_getElem? (i := 508) (by decide +kernel)⟩
theorem lw_p7 : lw_okq (⟨"MilkHorse$Walk", "befall", "(ILMilkHorse$Events;I)V"⟩, 17) := ⟨⟨by decide +kernel, by decide +kernel⟩, List.mem_of_getElem? (i := 136) (by decide +kernel), List.mem_of_getElem? (i := 515) (by decide +kernel), List.mem_of_getElem? (i := 516) (by decide +kernel)⟩
theorem lw_p8 : lw_okq (⟨"MilkHorse$Walk", "pullCart", "(I)V"⟩, 17) := ⟨⟨by decide +kernel, by decide +kernel⟩, List.mem_of_getElem? (i := 136) (by decide +kernel), List.mem_of_getElem? (i := 519) (by decide +kernel), List.mem_of_getElem? (i := 520) (by decide +kernel)⟩
theorem lw_p9 : lw_okq (⟨"MilkHorse$Walk", "breakOne", "(I)V"⟩, 17) := ⟨⟨by decide +kernel, by decide +kernel⟩, List.mem_of_getElem? (i := 136) (by decide +kernel), List.mem_of_getElem? (i := 529) (by decide +kernel), List.mem_of_getElem? (i := 530) (by decide +kernel)⟩
theorem lw_p10 : lw_okq (⟨"MilkHorse$Walk", "act", "(LMilkHorse$Plan;)V"⟩, 17) := ⟨⟨by decide +kernel, by decide +kernel⟩, List.mem_of_getElem? (i := 136) (by decide +kernel), List.mem_of_getElem? (i := 534) (by decide +kernel), List.mem_of_getElem? (i := 535) (by decide +kernel)⟩
theorem lw_p11 : lw_okq (⟨"MilkHorse$Walk", "goTowards", "(I)V"⟩, 17) := ⟨⟨by decide +kernel, by decide +kernel⟩, List.mem_of_getElem? (i := 136) (by decide +kernel), List.mem_of_getElem? (i := 539) (by decide +kernel), List.mem_of_getElem? (i := 540) (by decide +kernel)⟩
theorem lw_p12 : lw_okq (⟨"MilkHorse$Walk", "hasDog", "(I)Z"⟩, 17) := ⟨⟨by decide +kernel, by decide +kernel⟩, List.mem_of_getElem? (i := 136) (by decide +kernel), List.mem_of_getElem? (i := 543) (by decide +kernel), List.mem_of_getElem? (i := 544) (by decide +kernel)⟩
theorem lw_p13 : lw_okq (⟨"MilkHorse$Walk", "fillCrate", "(I)V"⟩, 17) := ⟨⟨by decide +kernel, by decide +kernel⟩, List.mem_of_getElem? (i := 136) (by decide +kernel), List.mem_of_getElem? (i := 547) (by decide +kernel), List.mem_of_getElem? (i := 548) (by decide +kernel)⟩
theorem lw_p14 : lw_okq (⟨"MilkHorse$Walk", "serve", "(LMilkHorse$Plan;I)V"⟩, 17) := ⟨⟨by decide +kernel, by decide +kernel⟩, List.mem_of_getElem? (i := 136) (by decide +kernel), List.mem_of_getElem? (i := 551) (by decide +kernel), List.mem_of_getElem? (i := 552) (by decide +kernel)⟩
theorem lw_p15 : lw_okq (⟨"MilkHorse$Walk", "drive", "(II)V"⟩, 17) := ⟨⟨by decide +kernel, by decide +kernel⟩, List.mem_of_getElem? (i := 136) (by decide +kernel), List.mem_of_getElem? (i := 555) (by decide +kernel), List.mem_of_getElem? (i := 556) (by decide +kernel)⟩
def lw_privs_1 : List (MethodName × Nat) := [(⟨"MilkHorse", "textOf", "(I)LMilkHorse$Text;"⟩, 17), (⟨"MilkHorse", "hearTexts", "()V"⟩, 17), (⟨"MilkHorse", "forgetMornings", "()V"⟩, 17), (⟨"MilkHorse", "sheetOf", "(I)LMilkHorse$Sheet;"⟩, 17), (⟨"MilkHorse", "found", "(I)I"⟩, 17), (⟨"MilkHorse", "learnDay", "()V"⟩, 17), (⟨"MilkHorse$Walk", "begin", "(LMilkHorse$Plan;)V"⟩, 17), (⟨"MilkHorse$Walk", "befall", "(ILMilkHorse$Events;I)V"⟩, 17), (⟨"MilkHorse$Walk", "pullCart", "(I)V"⟩, 17), (⟨"MilkHorse$Walk", "breakOne", "(I)V"⟩, 17), (⟨"MilkHorse$Walk", "act", "(LMilkHorse$Plan;)V"⟩, 17), (⟨"MilkHorse$Walk", "goTowards", "(I)V"⟩, 17), (⟨"MilkHorse$Walk", "hasDog", "(I)Z"⟩, 17), (⟨"MilkHorse$Walk", "fillCrate", "(I)V"⟩, 17), (⟨"MilkHorse$Walk", "serve", "(LMilkHorse$Plan;I)V"⟩, 17), (⟨"MilkHorse$Walk", "drive", "(II)V"⟩, 17)]
theorem lw_r1 : ∀ q ∈ lw_privs_1, lw_okq q := List.forall_mem_cons.mpr ⟨lw_p0, List.forall_mem_cons.mpr ⟨lw_p1, List.forall_mem_cons.mpr ⟨lw_p2, List.forall_mem_cons.mpr ⟨lw_p3, List.forall_mem_cons.mpr ⟨lw_p4, List.forall_mem_cons.mpr ⟨lw_p5, List.forall_mem_cons.mpr ⟨lw_p6, List.forall_mem_cons.mpr ⟨lw_p7, List.forall_mem_cons.mpr ⟨lw_p8, List.forall_mem_cons.mpr ⟨lw_p9, List.forall_mem_cons.mpr ⟨lw_p10, List.forall_mem_cons.mpr ⟨lw_p11, List.forall_mem_cons.mpr ⟨lw_p12, List.forall_mem_cons.mpr ⟨lw_p13, List.forall_mem_cons.mpr ⟨lw_p14, List.forall_mem_cons.mpr ⟨lw_p15, fun _ h => absurd h List.not_mem_nil⟩⟩⟩⟩⟩⟩⟩⟩⟩⟩⟩⟩⟩⟩⟩⟩
theorem lw_p16 : lw_okq (⟨"MilkHorse", "learnSwaps", "()V"⟩, 17) := ⟨⟨by decide +kernel, by decide +kernel⟩, List.mem_of_getElem? (i := 18) (by decide +kernel), List.mem_of_getElem? (i := 635) (by decide +kernel), List.mem_of_getElem? (i := 636) (by decide +kernel)⟩
theorem lw_p17 : lw_okq (⟨"MilkHorse", "learnSpared", "()V"⟩, 17) := ⟨⟨by decide +kernel, by decide +kernel⟩, List.mem_of_getElem? (i := 18) (by decide +kernel), List.mem_of_getElem? (i := 644) (by decide +kernel), List.mem_of_getElem? (i := 645) (by decide +kernel)⟩
theorem lw_p18 : lw_okq (⟨"MilkHorse", "isWellWithout", "(I)Z"⟩, 17) := ⟨⟨by decide +kernel, by decide +kernel⟩, List.mem_of_getElem? (i := 18) (by decide +kernel), List.mem_of_getElem? (i := 652) (by decide +kernel), List.mem_of_getElem? (i := 653) (by decide +kernel)⟩
theorem lw_p19 : lw_okq (⟨"MilkHorse", "comesOutAsSeen", "()Z"⟩, 17) := ⟨⟨by decide +kernel, by decide +kernel⟩, List.mem_of_getElem? (i := 18) (by decide +kernel), List.mem_of_getElem? (i := 677) (by decide +kernel), List.mem_of_getElem? (i := 678) (by decide +kernel)⟩
theorem lw_p20 : lw_okq (⟨"MilkHorse", "gatherCrowds", "()V"⟩, 17) := ⟨⟨by decide +kernel, by decide +kernel⟩, List.mem_of_getElem? (i := 18) (by decide +kernel), List.mem_of_getElem? (i := 697) (by decide +kernel), List.mem_of_getElem? (i := 698) (by decide +kernel)⟩
theorem lw_p21 : lw_okq (⟨"MilkHorse", "learnChances", "()V"⟩, 17) := ⟨⟨by decide +kernel, by decide +kernel⟩, List.mem_of_getElem? (i := 18) (by decide +kernel), List.mem_of_getElem? (i := 708) (by decide +kernel), List.mem_of_getElem? (i := 709) (by decide +kernel)⟩
theorem lw_p22 : lw_okq (⟨"MilkHorse", "mixTold", "(J)J"⟩, 17) := ⟨⟨by decide +kernel, by decide +kernel⟩, List.mem_of_getElem? (i := 18) (by decide +kernel), List.mem_of_getElem? (i := 786) (by decide +kernel), List.mem_of_getElem? (i := 787) (by decide +kernel)⟩
theorem lw_p23 : lw_okq (⟨"MilkHorse", "mixMinutes", "(J)J"⟩, 17) := ⟨⟨by decide +kernel, by decide +kernel⟩, List.mem_of_getElem? (i := 18) (by decide +kernel), List.mem_of_getElem? (i := 794) (by decide +kernel), List.mem_of_getElem? (i := 795) (by decide +kernel)⟩
theorem lw_p24 : lw_okq (⟨"MilkHorse", "mixDoor", "(JI)J"⟩, 17) := ⟨⟨by decide +kernel, by decide +kernel⟩, List.mem_of_getElem? (i := 18) (by decide +kernel), List.mem_of_getElem? (i := 799) (by decide +kernel), List.mem_of_getElem? (i := 800) (by decide +kernel)⟩
theorem lw_p25 : lw_okq (⟨"MilkHorseModel", "faultOf", "(I)I"⟩, 52) := ⟨⟨by decide +kernel, by decide +kernel⟩, List.mem_of_getElem? (i := 819) (by decide +kernel), List.mem_of_getElem? (i := 1005) (by decide +kernel), List.mem_of_getElem? (i := 1006) (by decide +kernel)⟩
theorem lw_p26 : lw_okq (⟨"MilkHorseModel", "toldOf", "(II)I"⟩, 52) := ⟨⟨by decide +kernel, by decide +kernel⟩, List.mem_of_getElem? (i := 819) (by decide +kernel), List.mem_of_getElem? (i := 1019) (by decide +kernel), List.mem_of_getElem? (i := 1020) (by decide +kernel)⟩
theorem lw_p27 : lw_okq (⟨"MilkHorseModel", "reads", "()V"⟩, 52) := ⟨⟨by decide +kernel, by decide +kernel⟩, List.mem_of_getElem? (i := 819) (by decide +kernel), List.mem_of_getElem? (i := 1023) (by decide +kernel), List.mem_of_getElem? (i := 1024) (by decide +kernel)⟩
theorem lw_p28 : lw_okq (⟨"MilkHorseModel", "roundOf", "(I)I"⟩, 52) := ⟨⟨by decide +kernel, by decide +kernel⟩, List.mem_of_getElem? (i := 819) (by decide +kernel), List.mem_of_getElem? (i := 1031) (by decide +kernel), List.mem_of_getElem? (i := 1032) (by decide +kernel)⟩
theorem lw_p29 : lw_okq (⟨"MilkHorseModel", "meets", "(I)I"⟩, 52) := ⟨⟨by decide +kernel, by decide +kernel⟩, List.mem_of_getElem? (i := 819) (by decide +kernel), List.mem_of_getElem? (i := 1060) (by decide +kernel), List.mem_of_getElem? (i := 1061) (by decide +kernel)⟩
theorem lw_p30 : lw_okq (⟨"MilkHorseModel", "atOf", "(II)I"⟩, 52) := ⟨⟨by decide +kernel, by decide +kernel⟩, List.mem_of_getElem? (i := 819) (by decide +kernel), List.mem_of_getElem? (i := 1069) (by decide +kernel), List.mem_of_getElem? (i := 1070) (by decide +kernel)⟩
theorem lw_p31 : lw_okq (⟨"MilkHorseModel", "runsTold", "()V"⟩, 52) := ⟨⟨by decide +kernel, by decide +kernel⟩, List.mem_of_getElem? (i := 819) (by decide +kernel), List.mem_of_getElem? (i := 1073) (by decide +kernel), List.mem_of_getElem? (i := 1074) (by decide +kernel)⟩
def lw_privs_2 : List (MethodName × Nat) := [(⟨"MilkHorse", "learnSwaps", "()V"⟩, 17), (⟨"MilkHorse", "learnSpared", "()V"⟩, 17), (⟨"MilkHorse", "isWellWithout", "(I)Z"⟩, 17), (⟨"MilkHorse", "comesOutAsSeen", "()Z"⟩, 17), (⟨"MilkHorse", "gatherCrowds", "()V"⟩, 17), (⟨"MilkHorse", "learnChances", "()V"⟩, 17), (⟨"MilkHorse", "mixTold", "(J)J"⟩, 17), (⟨"MilkHorse", "mixMinutes", "(J)J"⟩, 17), (⟨"MilkHorse", "mixDoor", "(JI)J"⟩, 17), (⟨"MilkHorseModel", "faultOf", "(I)I"⟩, 52), (⟨"MilkHorseModel", "toldOf", "(II)I"⟩, 52), (⟨"MilkHorseModel", "reads", "()V"⟩, 52), (⟨"MilkHorseModel", "roundOf", "(I)I"⟩, 52), (⟨"MilkHorseModel", "meets", "(I)I"⟩, 52), (⟨"MilkHorseModel", "atOf", "(II)I"⟩, 52), (⟨"MilkHorseModel", "runsTold", "()V"⟩, 52)]
theorem lw_r2 : ∀ q ∈ lw_privs_2, lw_okq q := List.forall_mem_cons.mpr ⟨lw_p16, List.forall_mem_cons.mpr ⟨lw_p17, List.forall_mem_cons.mpr ⟨lw_p18, List.forall_mem_cons.mpr ⟨lw_p19, List.forall_mem_cons.mpr ⟨lw_p20, List.forall_mem_cons.mpr ⟨lw_p21, List.forall_mem_cons.mpr ⟨lw_p22, List.forall_mem_cons.mpr ⟨lw_p23, List.forall_mem_cons.mpr ⟨lw_p24, List.forall_mem_cons.mpr ⟨lw_p25, List.forall_mem_cons.mpr ⟨lw_p26, List.forall_mem_cons.mpr ⟨lw_p27, List.forall_mem_cons.mpr ⟨lw_p28, List.forall_mem_cons.mpr ⟨lw_p29, List.forall_mem_cons.mpr ⟨lw_p30, List.forall_mem_cons.mpr ⟨lw_p31, fun _ h => absurd h List.not_mem_nil⟩⟩⟩⟩⟩⟩⟩⟩⟩⟩⟩⟩⟩⟩⟩⟩
theorem lw_p32 : lw_okq (⟨"MilkHorseModel", "asTold", "()V"⟩, 52) := ⟨⟨by decide +kernel, by decide +kernel⟩, List.mem_of_getElem? (i := 819) (by decide +kernel), List.mem_of_getElem? (i := 1077) (by decide +kernel), List.mem_of_getElem? (i := 1078) (by decide +kernel)⟩
theorem lw_p33 : lw_okq (⟨"MilkHorseModel", "runs", "()V"⟩, 52) := ⟨⟨by decide +kernel, by decide +kernel⟩, List.mem_of_getElem? (i := 819) (by decide +kernel), List.mem_of_getElem? (i := 1081) (by decide +kernel), List.mem_of_getElem? (i := 1082) (by decide +kernel)⟩
theorem lw_p34 : lw_okq (⟨"MilkHorseModel", "runsBy", "(I)V"⟩, 52) := ⟨⟨by decide +kernel, by decide +kernel⟩, List.mem_of_getElem? (i := 819) (by decide +kernel), List.mem_of_getElem? (i := 1085) (by decide +kernel), List.mem_of_getElem? (i := 1086) (by decide +kernel)⟩
theorem lw_p35 : lw_okq (⟨"MilkHorseModel", "goesBy", "(I)V"⟩, 52) := ⟨⟨by decide +kernel, by decide +kernel⟩, List.mem_of_getElem? (i := 819) (by decide +kernel), List.mem_of_getElem? (i := 1089) (by decide +kernel), List.mem_of_getElem? (i := 1090) (by decide +kernel)⟩
theorem lw_p36 : lw_okq (⟨"MilkHorseModel", "befalls", "(I)V"⟩, 52) := ⟨⟨by decide +kernel, by decide +kernel⟩, List.mem_of_getElem? (i := 819) (by decide +kernel), List.mem_of_getElem? (i := 1093) (by decide +kernel), List.mem_of_getElem? (i := 1094) (by decide +kernel)⟩
theorem lw_p37 : lw_okq (⟨"MilkHorseModel", "does", "()I"⟩, 52) := ⟨⟨by decide +kernel, by decide +kernel⟩, List.mem_of_getElem? (i := 819) (by decide +kernel), List.mem_of_getElem? (i := 1103) (by decide +kernel), List.mem_of_getElem? (i := 1104) (by decide +kernel)⟩
theorem lw_p38 : lw_okq (⟨"MilkHorseModel", "wanting", "(I)I"⟩, 52) := ⟨⟨by decide +kernel, by decide +kernel⟩, List.mem_of_getElem? (i := 819) (by decide +kernel), List.mem_of_getElem? (i := 1107) (by decide +kernel), List.mem_of_getElem? (i := 1108) (by decide +kernel)⟩
theorem lw_p39 : lw_okq (⟨"MilkHorseModel", "goes", "(I)I"⟩, 52) := ⟨⟨by decide +kernel, by decide +kernel⟩, List.mem_of_getElem? (i := 819) (by decide +kernel), List.mem_of_getElem? (i := 1111) (by decide +kernel), List.mem_of_getElem? (i := 1112) (by decide +kernel)⟩
theorem lw_p40 : lw_okq (⟨"MilkHorseModel", "fills", "()I"⟩, 52) := ⟨⟨by decide +kernel, by decide +kernel⟩, List.mem_of_getElem? (i := 819) (by decide +kernel), List.mem_of_getElem? (i := 1115) (by decide +kernel), List.mem_of_getElem? (i := 1116) (by decide +kernel)⟩
theorem lw_p41 : lw_okq (⟨"MilkHorseModel", "serves", "(I)I"⟩, 52) := ⟨⟨by decide +kernel, by decide +kernel⟩, List.mem_of_getElem? (i := 819) (by decide +kernel), List.mem_of_getElem? (i := 1122) (by decide +kernel), List.mem_of_getElem? (i := 1123) (by decide +kernel)⟩
theorem lw_p42 : lw_okq (⟨"MilkHorseModel", "follows", "(I)V"⟩, 52) := ⟨⟨by decide +kernel, by decide +kernel⟩, List.mem_of_getElem? (i := 819) (by decide +kernel), List.mem_of_getElem? (i := 1126) (by decide +kernel), List.mem_of_getElem? (i := 1127) (by decide +kernel)⟩
theorem lw_p43 : lw_okq (⟨"MilkHorseModel", "doorOf", "(III)I"⟩, 52) := ⟨⟨by decide +kernel, by decide +kernel⟩, List.mem_of_getElem? (i := 819) (by decide +kernel), List.mem_of_getElem? (i := 1134) (by decide +kernel), List.mem_of_getElem? (i := 1135) (by decide +kernel)⟩
theorem lw_p44 : lw_okq (⟨"MilkHorseModel", "doneOf", "(I)I"⟩, 52) := ⟨⟨by decide +kernel, by decide +kernel⟩, List.mem_of_getElem? (i := 819) (by decide +kernel), List.mem_of_getElem? (i := 1142) (by decide +kernel), List.mem_of_getElem? (i := 1143) (by decide +kernel)⟩
theorem lw_p45 : lw_okq (⟨"MilkHorseModel", "sumOf", "(I)I"⟩, 52) := ⟨⟨by decide +kernel, by decide +kernel⟩, List.mem_of_getElem? (i := 819) (by decide +kernel), List.mem_of_getElem? (i := 1150) (by decide +kernel), List.mem_of_getElem? (i := 1151) (by decide +kernel)⟩
theorem lw_p46 : lw_okq (⟨"MilkHorseModel", "overOf", "()I"⟩, 52) := ⟨⟨by decide +kernel, by decide +kernel⟩, List.mem_of_getElem? (i := 819) (by decide +kernel), List.mem_of_getElem? (i := 1158) (by decide +kernel), List.mem_of_getElem? (i := 1159) (by decide +kernel)⟩
theorem lw_p47 : lw_okq (⟨"MilkHorseModel", "lacksOf", "()I"⟩, 52) := ⟨⟨by decide +kernel, by decide +kernel⟩, List.mem_of_getElem? (i := 819) (by decide +kernel), List.mem_of_getElem? (i := 1166) (by decide +kernel), List.mem_of_getElem? (i := 1167) (by decide +kernel)⟩
def lw_privs_3 : List (MethodName × Nat) := [(⟨"MilkHorseModel", "asTold", "()V"⟩, 52), (⟨"MilkHorseModel", "runs", "()V"⟩, 52), (⟨"MilkHorseModel", "runsBy", "(I)V"⟩, 52), (⟨"MilkHorseModel", "goesBy", "(I)V"⟩, 52), (⟨"MilkHorseModel", "befalls", "(I)V"⟩, 52), (⟨"MilkHorseModel", "does", "()I"⟩, 52), (⟨"MilkHorseModel", "wanting", "(I)I"⟩, 52), (⟨"MilkHorseModel", "goes", "(I)I"⟩, 52), (⟨"MilkHorseModel", "fills", "()I"⟩, 52), (⟨"MilkHorseModel", "serves", "(I)I"⟩, 52), (⟨"MilkHorseModel", "follows", "(I)V"⟩, 52), (⟨"MilkHorseModel", "doorOf", "(III)I"⟩, 52), (⟨"MilkHorseModel", "doneOf", "(I)I"⟩, 52), (⟨"MilkHorseModel", "sumOf", "(I)I"⟩, 52), (⟨"MilkHorseModel", "overOf", "()I"⟩, 52), (⟨"MilkHorseModel", "lacksOf", "()I"⟩, 52)]
theorem lw_r3 : ∀ q ∈ lw_privs_3, lw_okq q := List.forall_mem_cons.mpr ⟨lw_p32, List.forall_mem_cons.mpr ⟨lw_p33, List.forall_mem_cons.mpr ⟨lw_p34, List.forall_mem_cons.mpr ⟨lw_p35, List.forall_mem_cons.mpr ⟨lw_p36, List.forall_mem_cons.mpr ⟨lw_p37, List.forall_mem_cons.mpr ⟨lw_p38, List.forall_mem_cons.mpr ⟨lw_p39, List.forall_mem_cons.mpr ⟨lw_p40, List.forall_mem_cons.mpr ⟨lw_p41, List.forall_mem_cons.mpr ⟨lw_p42, List.forall_mem_cons.mpr ⟨lw_p43, List.forall_mem_cons.mpr ⟨lw_p44, List.forall_mem_cons.mpr ⟨lw_p45, List.forall_mem_cons.mpr ⟨lw_p46, List.forall_mem_cons.mpr ⟨lw_p47, fun _ h => absurd h List.not_mem_nil⟩⟩⟩⟩⟩⟩⟩⟩⟩⟩⟩⟩⟩⟩⟩⟩
theorem lw_p48 : lw_okq (⟨"MilkHorseModel", "shortNow", "()I"⟩, 52) := ⟨⟨by decide +kernel, by decide +kernel⟩, List.mem_of_getElem? (i := 819) (by decide +kernel), List.mem_of_getElem? (i := 1170) (by decide +kernel), List.mem_of_getElem? (i := 1171) (by decide +kernel)⟩
theorem lw_p49 : lw_okq (⟨"MilkHorseModel", "betterOf", "(I)I"⟩, 52) := ⟨⟨by decide +kernel, by decide +kernel⟩, List.mem_of_getElem? (i := 819) (by decide +kernel), List.mem_of_getElem? (i := 1178) (by decide +kernel), List.mem_of_getElem? (i := 1179) (by decide +kernel)⟩
theorem lw_p50 : lw_okq (⟨"MilkHorseModel", "starts", "()V"⟩, 52) := ⟨⟨by decide +kernel, by decide +kernel⟩, List.mem_of_getElem? (i := 819) (by decide +kernel), List.mem_of_getElem? (i := 1182) (by decide +kernel), List.mem_of_getElem? (i := 1183) (by decide +kernel)⟩
theorem lw_p51 : lw_okq (⟨"MilkHorseModel", "tries", "(I)V"⟩, 52) := ⟨⟨by decide +kernel, by decide +kernel⟩, List.mem_of_getElem? (i := 819) (by decide +kernel), List.mem_of_getElem? (i := 1186) (by decide +kernel), List.mem_of_getElem? (i := 1187) (by decide +kernel)⟩
theorem lw_p52 : lw_okq (⟨"MilkHorseModel", "manyShort", "()I"⟩, 52) := ⟨⟨by decide +kernel, by decide +kernel⟩, List.mem_of_getElem? (i := 819) (by decide +kernel), List.mem_of_getElem? (i := 1190) (by decide +kernel), List.mem_of_getElem? (i := 1191) (by decide +kernel)⟩
theorem lw_p53 : lw_okq (⟨"MilkHorseModel", "fitOf", "(I)I"⟩, 52) := ⟨⟨by decide +kernel, by decide +kernel⟩, List.mem_of_getElem? (i := 819) (by decide +kernel), List.mem_of_getElem? (i := 1198) (by decide +kernel), List.mem_of_getElem? (i := 1199) (by decide +kernel)⟩
theorem lw_p54 : lw_okq (⟨"MilkHorseModel", "swapOf", "(I)I"⟩, 52) := ⟨⟨by decide +kernel, by decide +kernel⟩, List.mem_of_getElem? (i := 819) (by decide +kernel), List.mem_of_getElem? (i := 1206) (by decide +kernel), List.mem_of_getElem? (i := 1207) (by decide +kernel)⟩
theorem lw_p55 : lw_okq (⟨"MilkHorseModel", "spareBy", "()I"⟩, 52) := ⟨⟨by decide +kernel, by decide +kernel⟩, List.mem_of_getElem? (i := 819) (by decide +kernel), List.mem_of_getElem? (i := 1214) (by decide +kernel), List.mem_of_getElem? (i := 1215) (by decide +kernel)⟩
theorem lw_p56 : lw_okq (⟨"MilkHorseModel", "isSpared", "(I)Z"⟩, 52) := ⟨⟨by decide +kernel, by decide +kernel⟩, List.mem_of_getElem? (i := 819) (by decide +kernel), List.mem_of_getElem? (i := 1218) (by decide +kernel), List.mem_of_getElem? (i := 1219) (by decide +kernel)⟩
theorem lw_p57 : lw_okq (⟨"MilkHorseModel", "ofRow", "(II)I"⟩, 52) := ⟨⟨by decide +kernel, by decide +kernel⟩, List.mem_of_getElem? (i := 819) (by decide +kernel), List.mem_of_getElem? (i := 1222) (by decide +kernel), List.mem_of_getElem? (i := 1223) (by decide +kernel)⟩
theorem lw_p58 : lw_okq (⟨"MilkHorseModel", "neverNow", "()I"⟩, 52) := ⟨⟨by decide +kernel, by decide +kernel⟩, List.mem_of_getElem? (i := 819) (by decide +kernel), List.mem_of_getElem? (i := 1238) (by decide +kernel), List.mem_of_getElem? (i := 1239) (by decide +kernel)⟩
theorem lw_p59 : lw_okq (⟨"MilkHorseModel", "isSeen", "()Z"⟩, 52) := ⟨⟨by decide +kernel, by decide +kernel⟩, List.mem_of_getElem? (i := 819) (by decide +kernel), List.mem_of_getElem? (i := 1242) (by decide +kernel), List.mem_of_getElem? (i := 1243) (by decide +kernel)⟩
theorem lw_p60 : lw_okq (⟨"MilkHorseModel", "numbersBy", "(I)I"⟩, 52) := ⟨⟨by decide +kernel, by decide +kernel⟩, List.mem_of_getElem? (i := 819) (by decide +kernel), List.mem_of_getElem? (i := 1250) (by decide +kernel), List.mem_of_getElem? (i := 1251) (by decide +kernel)⟩
theorem lw_p61 : lw_okq (⟨"MilkHorseModel", "kindsBy", "()I"⟩, 52) := ⟨⟨by decide +kernel, by decide +kernel⟩, List.mem_of_getElem? (i := 819) (by decide +kernel), List.mem_of_getElem? (i := 1258) (by decide +kernel), List.mem_of_getElem? (i := 1259) (by decide +kernel)⟩
theorem lw_p62 : lw_okq (⟨"MilkHorseModel", "roomsBy", "()I"⟩, 52) := ⟨⟨by decide +kernel, by decide +kernel⟩, List.mem_of_getElem? (i := 819) (by decide +kernel), List.mem_of_getElem? (i := 1262) (by decide +kernel), List.mem_of_getElem? (i := 1263) (by decide +kernel)⟩
theorem lw_p63 : lw_okq (⟨"MilkHorseModel", "askOf", "()I"⟩, 52) := ⟨⟨by decide +kernel, by decide +kernel⟩, List.mem_of_getElem? (i := 819) (by decide +kernel), List.mem_of_getElem? (i := 1270) (by decide +kernel), List.mem_of_getElem? (i := 1271) (by decide +kernel)⟩
def lw_privs_4 : List (MethodName × Nat) := [(⟨"MilkHorseModel", "shortNow", "()I"⟩, 52), (⟨"MilkHorseModel", "betterOf", "(I)I"⟩, 52), (⟨"MilkHorseModel", "starts", "()V"⟩, 52), (⟨"MilkHorseModel", "tries", "(I)V"⟩, 52), (⟨"MilkHorseModel", "manyShort", "()I"⟩, 52), (⟨"MilkHorseModel", "fitOf", "(I)I"⟩, 52), (⟨"MilkHorseModel", "swapOf", "(I)I"⟩, 52), (⟨"MilkHorseModel", "spareBy", "()I"⟩, 52), (⟨"MilkHorseModel", "isSpared", "(I)Z"⟩, 52), (⟨"MilkHorseModel", "ofRow", "(II)I"⟩, 52), (⟨"MilkHorseModel", "neverNow", "()I"⟩, 52), (⟨"MilkHorseModel", "isSeen", "()Z"⟩, 52), (⟨"MilkHorseModel", "numbersBy", "(I)I"⟩, 52), (⟨"MilkHorseModel", "kindsBy", "()I"⟩, 52), (⟨"MilkHorseModel", "roomsBy", "()I"⟩, 52), (⟨"MilkHorseModel", "askOf", "()I"⟩, 52)]
theorem lw_r4 : ∀ q ∈ lw_privs_4, lw_okq q := List.forall_mem_cons.mpr ⟨lw_p48, List.forall_mem_cons.mpr ⟨lw_p49, List.forall_mem_cons.mpr ⟨lw_p50, List.forall_mem_cons.mpr ⟨lw_p51, List.forall_mem_cons.mpr ⟨lw_p52, List.forall_mem_cons.mpr ⟨lw_p53, List.forall_mem_cons.mpr ⟨lw_p54, List.forall_mem_cons.mpr ⟨lw_p55, List.forall_mem_cons.mpr ⟨lw_p56, List.forall_mem_cons.mpr ⟨lw_p57, List.forall_mem_cons.mpr ⟨lw_p58, List.forall_mem_cons.mpr ⟨lw_p59, List.forall_mem_cons.mpr ⟨lw_p60, List.forall_mem_cons.mpr ⟨lw_p61, List.forall_mem_cons.mpr ⟨lw_p62, List.forall_mem_cons.mpr ⟨lw_p63, fun _ h => absurd h List.not_mem_nil⟩⟩⟩⟩⟩⟩⟩⟩⟩⟩⟩⟩⟩⟩⟩⟩
theorem lw_p64 : lw_okq (⟨"MilkHorseModel", "chanceOf", "(III)J"⟩, 52) := ⟨⟨by decide +kernel, by decide +kernel⟩, List.mem_of_getElem? (i := 819) (by decide +kernel), List.mem_of_getElem? (i := 1278) (by decide +kernel), List.mem_of_getElem? (i := 1279) (by decide +kernel)⟩
theorem lw_p65 : lw_okq (⟨"MilkHorseModel", "morningsOf", "(III)I"⟩, 52) := ⟨⟨by decide +kernel, by decide +kernel⟩, List.mem_of_getElem? (i := 819) (by decide +kernel), List.mem_of_getElem? (i := 1293) (by decide +kernel), List.mem_of_getElem? (i := 1294) (by decide +kernel)⟩
theorem lw_p66 : lw_okq (⟨"MilkHorseModel", "lacks", "(III)I"⟩, 52) := ⟨⟨by decide +kernel, by decide +kernel⟩, List.mem_of_getElem? (i := 819) (by decide +kernel), List.mem_of_getElem? (i := 1310) (by decide +kernel), List.mem_of_getElem? (i := 1311) (by decide +kernel)⟩
theorem lw_p67 : lw_okq (⟨"MilkHorseModel", "keep", "(III)V"⟩, 52) := ⟨⟨by decide +kernel, by decide +kernel⟩, List.mem_of_getElem? (i := 819) (by decide +kernel), List.mem_of_getElem? (i := 1314) (by decide +kernel), List.mem_of_getElem? (i := 1315) (by decide +kernel)⟩
theorem lw_p68 : lw_okq (⟨"MilkHorseModel", "roundsOf", "()I"⟩, 52) := ⟨⟨by decide +kernel, by decide +kernel⟩, List.mem_of_getElem? (i := 819) (by decide +kernel), List.mem_of_getElem? (i := 1335) (by decide +kernel), List.mem_of_getElem? (i := 1336) (by decide +kernel)⟩
theorem lw_p69 : lw_okq (⟨"MilkHorseModel", "shortOf", "()I"⟩, 52) := ⟨⟨by decide +kernel, by decide +kernel⟩, List.mem_of_getElem? (i := 819) (by decide +kernel), List.mem_of_getElem? (i := 1339) (by decide +kernel), List.mem_of_getElem? (i := 1340) (by decide +kernel)⟩
theorem lw_p70 : lw_okq (⟨"MilkHorseModel", "doorDigest", "(JI)J"⟩, 52) := ⟨⟨by decide +kernel, by decide +kernel⟩, List.mem_of_getElem? (i := 819) (by decide +kernel), List.mem_of_getElem? (i := 1350) (by decide +kernel), List.mem_of_getElem? (i := 1351) (by decide +kernel)⟩
theorem lw_p71 : lw_okq (⟨"MilkHorseModel", "planDigest", "(J)J"⟩, 52) := ⟨⟨by decide +kernel, by decide +kernel⟩, List.mem_of_getElem? (i := 819) (by decide +kernel), List.mem_of_getElem? (i := 1354) (by decide +kernel), List.mem_of_getElem? (i := 1355) (by decide +kernel)⟩
def lw_privs_5 : List (MethodName × Nat) := [(⟨"MilkHorseModel", "chanceOf", "(III)J"⟩, 52), (⟨"MilkHorseModel", "morningsOf", "(III)I"⟩, 52), (⟨"MilkHorseModel", "lacks", "(III)I"⟩, 52), (⟨"MilkHorseModel", "keep", "(III)V"⟩, 52), (⟨"MilkHorseModel", "roundsOf", "()I"⟩, 52), (⟨"MilkHorseModel", "shortOf", "()I"⟩, 52), (⟨"MilkHorseModel", "doorDigest", "(JI)J"⟩, 52), (⟨"MilkHorseModel", "planDigest", "(J)J"⟩, 52)]
theorem lw_r5 : ∀ q ∈ lw_privs_5, lw_okq q := List.forall_mem_cons.mpr ⟨lw_p64, List.forall_mem_cons.mpr ⟨lw_p65, List.forall_mem_cons.mpr ⟨lw_p66, List.forall_mem_cons.mpr ⟨lw_p67, List.forall_mem_cons.mpr ⟨lw_p68, List.forall_mem_cons.mpr ⟨lw_p69, List.forall_mem_cons.mpr ⟨lw_p70, List.forall_mem_cons.mpr ⟨lw_p71, fun _ h => absurd h List.not_mem_nil⟩⟩⟩⟩⟩⟩⟩⟩
def lw_privs : List (MethodName × Nat) := lw_privs_1 ++ (lw_privs_2 ++ (lw_privs_3 ++ (lw_privs_4 ++ (lw_privs_5))))
def lw_tbl : List Cond := k2_sels lw_privs ++ tables_1
theorem lw_privs_ok : ∀ q ∈ lw_privs, lw_okq q := by
  show ∀ q ∈ lw_privs_1 ++ (lw_privs_2 ++ (lw_privs_3 ++ (lw_privs_4 ++ (lw_privs_5)))), lw_okq q
  exact List.forall_mem_append.mpr ⟨lw_r1, List.forall_mem_append.mpr ⟨lw_r2, List.forall_mem_append.mpr ⟨lw_r3, List.forall_mem_append.mpr ⟨lw_r4, lw_r5⟩⟩⟩⟩

def R_law : String := "MilkHorseLaw"
def lw_P (b : Addr) (xs : List Int32) (args : Array Value) (s : State) : Prop := args = #[.ref b] ∧ s.IntsAt b xs ∧ xs.length ≤ 3072 ∧ (Jvm.Cond.and given_1 narrow_1).before args s = true
def lw_Q (_ : Array Value) (s : State) (o : Outcome) (t : State) : Prop := o = .returned (some (.int 1)) ∧ Framed s o t [] 600000 7302250
def lw_Z (below : List Frame) (a : Array Value) (s : State) : State → Prop := fun t => ∃ o, t.status = .running ∧ Ended t below o ∧ lw_Q a s o t
/-- the law's own end, with 1 on the stack, nothing written that was there before, its room as the claim has it -/
theorem lw_ret {p : Program} {l : Launch} {e : Env} {s : State} {m : MethodId} {below : List Frame} {meth : Method} {c : Code} {b : Nat} (hx : p.tables.exec = Jvm.exec) (hb : c.code = code) (hr : meth.sig.returnType = ret) (hlocks : meth.locks = false) {pc : Nat} {H : Heap} {ls : Array Slot} (hdg : decode code pc = .ok (.ireturn, 1)) : W p l e room_1 s m #[Value.ref b] below meth c H [] 600000 7302250 (lw_Z below #[Value.ref b] s) (F0 m pc ls [.int 1]) := by
  intro T hT X
  obtain ⟨fs, hret, hrun, hended, hW, hframe⟩ := X.leave (v := some (.int 1)) (hlocks := hlocks) (fun h => by rw [hr] at h; cases h)
  have hmeth' : T.vm.method? m = some meth := X.method'
  refine ⟨T.setFrames fs, ?_, .returned (some (.int 1)), hrun, hended, rfl, ⟨_, rfl⟩, hW, hframe⟩
  jvm_step X.here [X.here.top, hx, hb, hdg, hmeth', hr, ret, narrow_b1]
  (try refine ⟨rfl, ?_⟩); (try refine ⟨rfl, ?_⟩)
  first | (intro acts; rw [hret _ acts rfl rfl rfl]) | rw [hret _ _ rfl rfl rfl]
  exact Steps.refl _
/-- what holds at the law's entry: the machine, the code, the tables' words (any of lw_tbl by 'hts w (by decide +kernel)'), the script of L ints xs at the cell b, what the Statement gives of the start (any of its parts by flat_of_before) -/
def lw_At (p : Program) (s : State) (m : MethodId) (meth : Method) (c : Code) (b L : Nat) (xs : Nat → Int32) : Prop :=
  p.tables.exec = Jvm.exec ∧ c.code = code ∧ meth.sig.returnType = ret ∧ c.maxLocals = 4 ∧ s.vm.findClass R_law = some m.cls ∧ (∀ w ∈ lw_tbl, w.before #[Value.ref b] s = true) ∧ va_X b L xs s s.heap ∧ b < s.heap.size ∧ meth.locks = false ∧ (Jvm.Cond.and given_1 narrow_1).before #[Value.ref b] s = true

/-- the words that hold at every call too -/
def am_tbl : List Cond := lw_tbl.filter goodWord
theorem am_mem {w : Cond} {i : Nat} (hi : tables_1[i]? = some w) (hg : goodWord w = true) : w ∈ am_tbl := List.mem_filter.mpr ⟨List.mem_append_right _ (List.mem_of_getElem? hi), hg⟩
theorem am_memS {w : Cond} {i : Nat} (hi : (k2_sels lw_privs)[i]? = some w) (hg : goodWord w = true) : w ∈ am_tbl := List.mem_filter.mpr ⟨List.mem_append_left _ (List.mem_of_getElem? hi), hg⟩
def am_isN : Cond → Bool
  | .fieldLinkNest .. => true
  | .methodLinkNest .. => true
  | _ => false
/-- the links to nest mates: they hold at every call too, but not as words -/
def am_nest : List Cond := tables_1.filter am_isN
theorem am_memN {w : Cond} {i : Nat} (hi : tables_1[i]? = some w) (hg : am_isN w = true) : w ∈ am_nest := List.mem_filter.mpr ⟨List.mem_of_getElem? hi, hg⟩
def am_N (U : State) : Prop := ∀ w ∈ am_nest, va_Nw w U
theorem am_N_warm {s U : State} (hW : s.WarmedH U.vm) (h : am_N s) : am_N U := by
  intro w hw
  have h1 := h w hw
  have h2 := (List.mem_filter.mp hw).2
  cases w with
  | fieldLinkNest a i b n d h => exact va_Nw.warmF hW h1
  | methodLinkNest a i x h => exact va_Nw.warmM hW h1
  | _ => cases h2
theorem am_N_vm {u U : State} (hv : u.vm = U.vm) (h : am_N u) : am_N U := by
  intro w hw
  have h1 := h w hw
  have h2 := (List.mem_filter.mp hw).2
  cases w with
  | fieldLinkNest a i b n d h => exact va_tabs rfl hv h1
  | methodLinkNest a i x h => exact va_tabs rfl hv h1
  | _ => cases h2
theorem am_N_of {s : State} {args : Array Value} (h : ∀ w ∈ lw_tbl, w.before args s = true) : am_N s := by
  intro w hw
  obtain ⟨h1, h2⟩ := List.mem_filter.mp hw
  have h3 := h w (List.mem_append_right _ h1)
  cases w with
  | fieldLinkNest a i b n d h => exact va_tabs rfl rfl h3
  | methodLinkNest a i x h => exact va_tabs rfl rfl h3
  | _ => cases h2
theorem am_good : GoodIn lw_tbl am_tbl := fun w hw => ⟨(List.mem_filter.mp hw).1, good_of_word (List.mem_filter.mp hw).2⟩
theorem am_goodS : GoodIn am_tbl am_tbl := fun w hw => ⟨hw, good_of_word (List.mem_filter.mp hw).2⟩
def R_0 : String := "MilkHorse$Chances"
def F_0 : u_T := fun k => match k with
  | 0 => ("MilkHorse$Chances", "lacking", "[I", true)
  | 1 => ("MilkHorse$Chances", "weights", "[J", true)
  | _ => ("MilkHorse$Chances", "known", "Z", false)
def t_0 : Nat → FieldType := fun k => match k with
  | 0 => .array (.int)
  | 1 => .array (.long)
  | _ => .boolean
theorem n_0 : ∀ a, a < 3 → ∀ b, b < 3 → a ≠ b → (F_0 a).2.1 ≠ (F_0 b).2.1 := by decide +kernel
theorem t_0_ok : ∀ k, k < 3 → parseFieldDescriptor (F_0 k).2.2.1 = some (t_0 k) := by decide +kernel
theorem i_0 : ∀ w ∈ u_ws R_0 F_0 3, w ∈ lw_tbl := by
  have h : u_ws R_0 F_0 3 = ([302, 304, 306] : List Nat).filterMap (fun i => tables_1[i]?) := by decide +kernel
  intro w hw
  rw [h] at hw
  obtain ⟨i, -, hi⟩ := List.mem_filterMap.mp hw
  exact List.mem_append_right _ (List.mem_of_getElem? hi)
theorem ig_0 : ∀ w ∈ u_ws R_0 F_0 3, w ∈ am_tbl := by
  have h : (u_ws R_0 F_0 3).all goodWord = true := by decide +kernel
  intro w hw
  exact List.mem_filter.mpr ⟨i_0 w hw, List.all_eq_true.mp h w hw⟩
def R_1 : String := "MilkHorse$Choice"
def F_1 : u_T := fun k => match k with
  | 0 => ("MilkHorse$Choice", "first", "I", false)
  | 1 => ("MilkHorse$Choice", "second", "I", false)
  | 2 => ("MilkHorse$Choice", "lacking", "I", false)
  | 3 => ("MilkHorse$Choice", "walked", "I", false)
  | _ => ("MilkHorse$Choice", "known", "Z", false)
def t_1 : Nat → FieldType := fun k => match k with
  | 0 => .int
  | 1 => .int
  | 2 => .int
  | 3 => .int
  | _ => .boolean
theorem n_1 : ∀ a, a < 5 → ∀ b, b < 5 → a ≠ b → (F_1 a).2.1 ≠ (F_1 b).2.1 := by decide +kernel
theorem t_1_ok : ∀ k, k < 5 → parseFieldDescriptor (F_1 k).2.2.1 = some (t_1 k) := by decide +kernel
theorem i_1 : ∀ w ∈ u_ws R_1 F_1 5, w ∈ lw_tbl := by
  have h : u_ws R_1 F_1 5 = ([257, 259, 261, 263, 265] : List Nat).filterMap (fun i => tables_1[i]?) := by decide +kernel
  intro w hw
  rw [h] at hw
  obtain ⟨i, -, hi⟩ := List.mem_filterMap.mp hw
  exact List.mem_append_right _ (List.mem_of_getElem? hi)
theorem ig_1 : ∀ w ∈ u_ws R_1 F_1 5, w ∈ am_tbl := by
  have h : (u_ws R_1 F_1 5).all goodWord = true := by decide +kernel
  intro w hw
  exact List.mem_filter.mpr ⟨i_1 w hw, List.all_eq_true.mp h w hw⟩
def R_2 : String := "MilkHorse$Day"
def F_2 : u_T := fun k => match k with
  | 0 => ("MilkHorse$Day", "acts", "[I", true)
  | 1 => ("MilkHorse$Day", "doors", "[I", true)
  | 2 => ("MilkHorse$Day", "doneIn", "[I", true)
  | 3 => ("MilkHorse$Day", "sums", "[I", true)
  | 4 => ("MilkHorse$Day", "overIn", "I", false)
  | 5 => ("MilkHorse$Day", "lacking", "I", false)
  | _ => ("MilkHorse$Day", "known", "Z", false)
def t_2 : Nat → FieldType := fun k => match k with
  | 0 => .array (.int)
  | 1 => .array (.int)
  | 2 => .array (.int)
  | 3 => .array (.int)
  | 4 => .int
  | 5 => .int
  | _ => .boolean
theorem n_2 : ∀ a, a < 7 → ∀ b, b < 7 → a ≠ b → (F_2 a).2.1 ≠ (F_2 b).2.1 := by decide +kernel
theorem t_2_ok : ∀ k, k < 7 → parseFieldDescriptor (F_2 k).2.2.1 = some (t_2 k) := by decide +kernel
theorem i_2 : ∀ w ∈ u_ws R_2 F_2 7, w ∈ lw_tbl := by
  have h : u_ws R_2 F_2 7 = ([229, 231, 233, 235, 237, 239, 241] : List Nat).filterMap (fun i => tables_1[i]?) := by decide +kernel
  intro w hw
  rw [h] at hw
  obtain ⟨i, -, hi⟩ := List.mem_filterMap.mp hw
  exact List.mem_append_right _ (List.mem_of_getElem? hi)
theorem ig_2 : ∀ w ∈ u_ws R_2 F_2 7, w ∈ am_tbl := by
  have h : (u_ws R_2 F_2 7).all goodWord = true := by decide +kernel
  intro w hw
  exact List.mem_filter.mpr ⟨i_2 w hw, List.all_eq_true.mp h w hw⟩
def R_3 : String := "MilkHorse$Events"
def F_3 : u_T := fun k => match k with
  | 0 => ("MilkHorse$Events", "kinds", "[I", true)
  | 1 => ("MilkHorse$Events", "minutes", "[I", true)
  | 2 => ("MilkHorse$Events", "numbers", "[I", true)
  | _ => ("MilkHorse$Events", "many", "I", false)
def t_3 : Nat → FieldType := fun k => match k with
  | 0 => .array (.int)
  | 1 => .array (.int)
  | 2 => .array (.int)
  | _ => .int
theorem n_3 : ∀ a, a < 4 → ∀ b, b < 4 → a ≠ b → (F_3 a).2.1 ≠ (F_3 b).2.1 := by decide +kernel
theorem t_3_ok : ∀ k, k < 4 → parseFieldDescriptor (F_3 k).2.2.1 = some (t_3 k) := by decide +kernel
theorem i_3 : ∀ w ∈ u_ws R_3 F_3 4, w ∈ lw_tbl := by
  have h : u_ws R_3 F_3 4 = ([64, 66, 68, 70] : List Nat).filterMap (fun i => tables_1[i]?) := by decide +kernel
  intro w hw
  rw [h] at hw
  obtain ⟨i, -, hi⟩ := List.mem_filterMap.mp hw
  exact List.mem_append_right _ (List.mem_of_getElem? hi)
theorem ig_3 : ∀ w ∈ u_ws R_3 F_3 4, w ∈ am_tbl := by
  have h : (u_ws R_3 F_3 4).all goodWord = true := by decide +kernel
  intro w hw
  exact List.mem_filter.mpr ⟨i_3 w hw, List.all_eq_true.mp h w hw⟩
def R_4 : String := "MilkHorse$Plan"
def F_4 : u_T := fun k => match k with
  | 0 => ("MilkHorse$Plan", "wants", "[I", true)
  | 1 => ("MilkHorse$Plan", "empties", "[I", true)
  | 2 => ("MilkHorse$Plan", "round", "[I", true)
  | 3 => ("MilkHorse$Plan", "places", "I", false)
  | 4 => ("MilkHorse$Plan", "horse", "I", false)
  | 5 => ("MilkHorse$Plan", "room", "I", false)
  | 6 => ("MilkHorse$Plan", "cart", "I", false)
  | _ => ("MilkHorse$Plan", "absent", "I", false)
def t_4 : Nat → FieldType := fun k => match k with
  | 0 => .array (.int)
  | 1 => .array (.int)
  | 2 => .array (.int)
  | 3 => .int
  | 4 => .int
  | 5 => .int
  | 6 => .int
  | _ => .int
theorem n_4 : ∀ a, a < 8 → ∀ b, b < 8 → a ≠ b → (F_4 a).2.1 ≠ (F_4 b).2.1 := by decide +kernel
theorem t_4_ok : ∀ k, k < 8 → parseFieldDescriptor (F_4 k).2.2.1 = some (t_4 k) := by decide +kernel
theorem i_4 : ∀ w ∈ u_ws R_4 F_4 8, w ∈ lw_tbl := by
  have h : u_ws R_4 F_4 8 = ([118, 120, 122, 124, 126, 128, 130, 132] : List Nat).filterMap (fun i => tables_1[i]?) := by decide +kernel
  intro w hw
  rw [h] at hw
  obtain ⟨i, -, hi⟩ := List.mem_filterMap.mp hw
  exact List.mem_append_right _ (List.mem_of_getElem? hi)
theorem ig_4 : ∀ w ∈ u_ws R_4 F_4 8, w ∈ am_tbl := by
  have h : (u_ws R_4 F_4 8).all goodWord = true := by decide +kernel
  intro w hw
  exact List.mem_filter.mpr ⟨i_4 w hw, List.all_eq_true.mp h w hw⟩
def R_5 : String := "MilkHorse$Sheet"
def F_5 : u_T := fun k => match k with
  | 0 => ("MilkHorse$Sheet", "items", "[I", true)
  | 1 => ("MilkHorse$Sheet", "form", "I", false)
  | 2 => ("MilkHorse$Sheet", "length", "I", false)
  | _ => ("MilkHorse$Sheet", "lost", "Z", false)
def t_5 : Nat → FieldType := fun k => match k with
  | 0 => .array (.int)
  | 1 => .int
  | 2 => .int
  | _ => .boolean
theorem n_5 : ∀ a, a < 4 → ∀ b, b < 4 → a ≠ b → (F_5 a).2.1 ≠ (F_5 b).2.1 := by decide +kernel
theorem t_5_ok : ∀ k, k < 4 → parseFieldDescriptor (F_5 k).2.2.1 = some (t_5 k) := by decide +kernel
theorem i_5 : ∀ w ∈ u_ws R_5 F_5 4, w ∈ lw_tbl := by
  have h : u_ws R_5 F_5 4 = ([325, 327, 329, 331] : List Nat).filterMap (fun i => tables_1[i]?) := by decide +kernel
  intro w hw
  rw [h] at hw
  obtain ⟨i, -, hi⟩ := List.mem_filterMap.mp hw
  exact List.mem_append_right _ (List.mem_of_getElem? hi)
theorem ig_5 : ∀ w ∈ u_ws R_5 F_5 4, w ∈ am_tbl := by
  have h : (u_ws R_5 F_5 4).all goodWord = true := by decide +kernel
  intro w hw
  exact List.mem_filter.mpr ⟨i_5 w hw, List.all_eq_true.mp h w hw⟩
def R_6 : String := "MilkHorse$Sights"
def F_6 : u_T := fun k => match k with
  | 0 => ("MilkHorse$Sights", "minutes", "[I", true)
  | 1 => ("MilkHorse$Sights", "doors", "[I", true)
  | _ => ("MilkHorse$Sights", "many", "I", false)
def t_6 : Nat → FieldType := fun k => match k with
  | 0 => .array (.int)
  | 1 => .array (.int)
  | _ => .int
theorem n_6 : ∀ a, a < 3 → ∀ b, b < 3 → a ≠ b → (F_6 a).2.1 ≠ (F_6 b).2.1 := by decide +kernel
theorem t_6_ok : ∀ k, k < 3 → parseFieldDescriptor (F_6 k).2.2.1 = some (t_6 k) := by decide +kernel
theorem i_6 : ∀ w ∈ u_ws R_6 F_6 3, w ∈ lw_tbl := by
  have h : u_ws R_6 F_6 3 = ([83, 85, 87] : List Nat).filterMap (fun i => tables_1[i]?) := by decide +kernel
  intro w hw
  rw [h] at hw
  obtain ⟨i, -, hi⟩ := List.mem_filterMap.mp hw
  exact List.mem_append_right _ (List.mem_of_getElem? hi)
theorem ig_6 : ∀ w ∈ u_ws R_6 F_6 3, w ∈ am_tbl := by
  have h : (u_ws R_6 F_6 3).all goodWord = true := by decide +kernel
  intro w hw
  exact List.mem_filter.mpr ⟨i_6 w hw, List.all_eq_true.mp h w hw⟩
def R_7 : String := "MilkHorse$Spared"
def F_7 : u_T := fun k => match k with
  | 0 => ("MilkHorse$Spared", "many", "I", false)
  | 1 => ("MilkHorse$Spared", "first", "I", false)
  | 2 => ("MilkHorse$Spared", "second", "I", false)
  | _ => ("MilkHorse$Spared", "known", "Z", false)
def t_7 : Nat → FieldType := fun k => match k with
  | 0 => .int
  | 1 => .int
  | 2 => .int
  | _ => .boolean
theorem n_7 : ∀ a, a < 4 → ∀ b, b < 4 → a ≠ b → (F_7 a).2.1 ≠ (F_7 b).2.1 := by decide +kernel
theorem t_7_ok : ∀ k, k < 4 → parseFieldDescriptor (F_7 k).2.2.1 = some (t_7 k) := by decide +kernel
theorem i_7 : ∀ w ∈ u_ws R_7 F_7 4, w ∈ lw_tbl := by
  have h : u_ws R_7 F_7 4 = ([282, 284, 286, 288] : List Nat).filterMap (fun i => tables_1[i]?) := by decide +kernel
  intro w hw
  rw [h] at hw
  obtain ⟨i, -, hi⟩ := List.mem_filterMap.mp hw
  exact List.mem_append_right _ (List.mem_of_getElem? hi)
theorem ig_7 : ∀ w ∈ u_ws R_7 F_7 4, w ∈ am_tbl := by
  have h : (u_ws R_7 F_7 4).all goodWord = true := by decide +kernel
  intro w hw
  exact List.mem_filter.mpr ⟨i_7 w hw, List.all_eq_true.mp h w hw⟩
def R_8 : String := "MilkHorse$Text"
def F_8 : u_T := fun k => match k with
  | 0 => ("MilkHorse$Text", "bytes", "[I", true)
  | 1 => ("MilkHorse$Text", "most", "I", true)
  | 2 => ("MilkHorse$Text", "low", "I", true)
  | 3 => ("MilkHorse$Text", "high", "I", true)
  | _ => ("MilkHorse$Text", "length", "I", false)
def t_8 : Nat → FieldType := fun k => match k with
  | 0 => .array (.int)
  | 1 => .int
  | 2 => .int
  | 3 => .int
  | _ => .int
theorem n_8 : ∀ a, a < 5 → ∀ b, b < 5 → a ≠ b → (F_8 a).2.1 ≠ (F_8 b).2.1 := by decide +kernel
theorem t_8_ok : ∀ k, k < 5 → parseFieldDescriptor (F_8 k).2.2.1 = some (t_8 k) := by decide +kernel
theorem i_8 : ∀ w ∈ u_ws R_8 F_8 5, w ∈ lw_tbl := by
  have h : u_ws R_8 F_8 5 = ([37, 39, 41, 43, 45] : List Nat).filterMap (fun i => tables_1[i]?) := by decide +kernel
  intro w hw
  rw [h] at hw
  obtain ⟨i, -, hi⟩ := List.mem_filterMap.mp hw
  exact List.mem_append_right _ (List.mem_of_getElem? hi)
theorem ig_8 : ∀ w ∈ u_ws R_8 F_8 5, w ∈ am_tbl := by
  have h : (u_ws R_8 F_8 5).all goodWord = true := by decide +kernel
  intro w hw
  exact List.mem_filter.mpr ⟨i_8 w hw, List.all_eq_true.mp h w hw⟩
def R_9 : String := "MilkHorse$Walk"
def F_9 : u_T := fun k => match k with
  | 0 => ("MilkHorse$Walk", "laid", "[I", true)
  | 1 => ("MilkHorse$Walk", "standing", "[I", true)
  | 2 => ("MilkHorse$Walk", "empties", "[I", true)
  | 3 => ("MilkHorse$Walk", "trace", "[I", true)
  | 4 => ("MilkHorse$Walk", "man", "I", false)
  | 5 => ("MilkHorse$Walk", "cart", "I", false)
  | 6 => ("MilkHorse$Walk", "cartHas", "I", false)
  | 7 => ("MilkHorse$Walk", "crateFull", "I", false)
  | 8 => ("MilkHorse$Walk", "crateEmpties", "I", false)
  | 9 => ("MilkHorse$Walk", "place", "I", false)
  | 10 => ("MilkHorse$Walk", "cartWasBare", "Z", false)
  | 11 => ("MilkHorse$Walk", "dogs", "I", false)
  | 12 => ("MilkHorse$Walk", "did", "I", false)
  | 13 => ("MilkHorse$Walk", "walked", "I", false)
  | 14 => ("MilkHorse$Walk", "filled", "I", false)
  | 15 => ("MilkHorse$Walk", "broken", "I", false)
  | _ => ("MilkHorse$Walk", "brought", "I", false)
def t_9 : Nat → FieldType := fun k => match k with
  | 0 => .array (.int)
  | 1 => .array (.int)
  | 2 => .array (.int)
  | 3 => .array (.int)
  | 4 => .int
  | 5 => .int
  | 6 => .int
  | 7 => .int
  | 8 => .int
  | 9 => .int
  | 10 => .boolean
  | 11 => .int
  | 12 => .int
  | 13 => .int
  | 14 => .int
  | 15 => .int
  | _ => .int
theorem n_9 : ∀ a, a < 17 → ∀ b, b < 17 → a ≠ b → (F_9 a).2.1 ≠ (F_9 b).2.1 := by decide +kernel
theorem t_9_ok : ∀ k, k < 17 → parseFieldDescriptor (F_9 k).2.2.1 = some (t_9 k) := by decide +kernel
theorem i_9 : ∀ w ∈ u_ws R_9 F_9 17, w ∈ lw_tbl := by
  have h : u_ws R_9 F_9 17 = ([174, 176, 178, 180, 182, 184, 186, 188, 190, 192, 194, 196, 198, 200, 202, 204, 206] : List Nat).filterMap (fun i => tables_1[i]?) := by decide +kernel
  intro w hw
  rw [h] at hw
  obtain ⟨i, -, hi⟩ := List.mem_filterMap.mp hw
  exact List.mem_append_right _ (List.mem_of_getElem? hi)
theorem ig_9 : ∀ w ∈ u_ws R_9 F_9 17, w ∈ am_tbl := by
  have h : (u_ws R_9 F_9 17).all goodWord = true := by decide +kernel
  intro w hw
  exact List.mem_filter.mpr ⟨i_9 w hw, List.all_eq_true.mp h w hw⟩
def R_10 : String := "MilkHorse"
def F_10 : u_T := fun k => match k with
  | 0 => ("MilkHorse", "wantsText", "LMilkHorse$Text;", true)
  | 1 => ("MilkHorse", "emptiesText", "LMilkHorse$Text;", true)
  | 2 => ("MilkHorse", "roundText", "LMilkHorse$Text;", true)
  | 3 => ("MilkHorse", "events", "LMilkHorse$Events;", true)
  | 4 => ("MilkHorse", "sights", "LMilkHorse$Sights;", true)
  | 5 => ("MilkHorse", "told", "LMilkHorse$Plan;", true)
  | 6 => ("MilkHorse", "trial", "LMilkHorse$Plan;", true)
  | 7 => ("MilkHorse", "walk", "LMilkHorse$Walk;", true)
  | 8 => ("MilkHorse", "day", "LMilkHorse$Day;", true)
  | 9 => ("MilkHorse", "horses", "LMilkHorse$Choice;", true)
  | 10 => ("MilkHorse", "rooms", "LMilkHorse$Choice;", true)
  | 11 => ("MilkHorse", "swaps", "LMilkHorse$Choice;", true)
  | 12 => ("MilkHorse", "spared", "LMilkHorse$Spared;", true)
  | 13 => ("MilkHorse", "chances", "LMilkHorse$Chances;", true)
  | 14 => ("MilkHorse", "crowds", "[I", true)
  | 15 => ("MilkHorse", "sheets", "[LMilkHorse$Sheet;", true)
  | _ => ("MilkHorse", "finding", "I", false)
def t_10 : Nat → FieldType := fun k => match k with
  | 0 => .object "MilkHorse$Text"
  | 1 => .object "MilkHorse$Text"
  | 2 => .object "MilkHorse$Text"
  | 3 => .object "MilkHorse$Events"
  | 4 => .object "MilkHorse$Sights"
  | 5 => .object "MilkHorse$Plan"
  | 6 => .object "MilkHorse$Plan"
  | 7 => .object "MilkHorse$Walk"
  | 8 => .object "MilkHorse$Day"
  | 9 => .object "MilkHorse$Choice"
  | 10 => .object "MilkHorse$Choice"
  | 11 => .object "MilkHorse$Choice"
  | 12 => .object "MilkHorse$Spared"
  | 13 => .object "MilkHorse$Chances"
  | 14 => .array (.int)
  | 15 => .array (.object "MilkHorse$Sheet")
  | _ => .int
theorem n_10 : ∀ a, a < 17 → ∀ b, b < 17 → a ≠ b → (F_10 a).2.1 ≠ (F_10 b).2.1 := by decide +kernel
theorem t_10_ok : ∀ k, k < 17 → parseFieldDescriptor (F_10 k).2.2.1 = some (t_10 k) := by decide +kernel
theorem i_10 : ∀ w ∈ u_ws R_10 F_10 17, w ∈ lw_tbl := by
  have h : u_ws R_10 F_10 17 = ([351, 353, 355, 357, 359, 361, 363, 365, 367, 369, 371, 373, 375, 377, 379, 381, 383] : List Nat).filterMap (fun i => tables_1[i]?) := by decide +kernel
  intro w hw
  rw [h] at hw
  obtain ⟨i, -, hi⟩ := List.mem_filterMap.mp hw
  exact List.mem_append_right _ (List.mem_of_getElem? hi)
theorem ig_10 : ∀ w ∈ u_ws R_10 F_10 17, w ∈ am_tbl := by
  have h : (u_ws R_10 F_10 17).all goodWord = true := by decide +kernel
  intro w hw
  exact List.mem_filter.mpr ⟨i_10 w hw, List.all_eq_true.mp h w hw⟩
def R_11 : String := "MilkHorseModel"
def F_11 : u_T := fun k => match k with
  | 0 => ("MilkHorseModel", "typed", "[I", true)
  | 1 => ("MilkHorseModel", "texts", "[I", true)
  | 2 => ("MilkHorseModel", "wants", "[I", true)
  | 3 => ("MilkHorseModel", "empties", "[I", true)
  | 4 => ("MilkHorseModel", "rounds", "I", false)
  | 5 => ("MilkHorseModel", "roundTold", "[I", true)
  | 6 => ("MilkHorseModel", "settings", "[I", true)
  | 7 => ("MilkHorseModel", "events", "I", false)
  | 8 => ("MilkHorseModel", "eventKind", "[I", true)
  | 9 => ("MilkHorseModel", "eventAt", "[I", true)
  | 10 => ("MilkHorseModel", "eventNumber", "[I", true)
  | 11 => ("MilkHorseModel", "wantNow", "[I", true)
  | 12 => ("MilkHorseModel", "roundNow", "[I", true)
  | 13 => ("MilkHorseModel", "horseNow", "I", false)
  | 14 => ("MilkHorseModel", "roomNow", "I", false)
  | 15 => ("MilkHorseModel", "notEvents", "I", false)
  | 16 => ("MilkHorseModel", "man", "I", false)
  | 17 => ("MilkHorseModel", "cart", "I", false)
  | 18 => ("MilkHorseModel", "full", "I", false)
  | 19 => ("MilkHorseModel", "used", "I", false)
  | 20 => ("MilkHorseModel", "stock", "I", false)
  | 21 => ("MilkHorseModel", "at", "I", false)
  | 22 => ("MilkHorseModel", "isOver", "Z", false)
  | 23 => ("MilkHorseModel", "dogs", "I", false)
  | 24 => ("MilkHorseModel", "walked", "I", false)
  | 25 => ("MilkHorseModel", "filled", "I", false)
  | 26 => ("MilkHorseModel", "broken", "I", false)
  | 27 => ("MilkHorseModel", "brought", "I", false)
  | 28 => ("MilkHorseModel", "restsAt", "I", false)
  | 29 => ("MilkHorseModel", "laid", "[I", true)
  | 30 => ("MilkHorseModel", "stands", "[I", true)
  | 31 => ("MilkHorseModel", "left", "[I", true)
  | 32 => ("MilkHorseModel", "doneAt", "[I", true)
  | 33 => ("MilkHorseModel", "manAt", "[I", true)
  | 34 => ("MilkHorseModel", "cartAt", "[I", true)
  | 35 => ("MilkHorseModel", "fullAt", "[I", true)
  | 36 => ("MilkHorseModel", "usedAt", "[I", true)
  | 37 => ("MilkHorseModel", "didAt", "[I", true)
  | 38 => ("MilkHorseModel", "bestNow", "I", false)
  | 39 => ("MilkHorseModel", "fewest", "I", false)
  | 40 => ("MilkHorseModel", "nearest", "I", false)
  | 41 => ("MilkHorseModel", "planRow", "[I", true)
  | 42 => ("MilkHorseModel", "seens", "I", false)
  | 43 => ("MilkHorseModel", "seenAt", "[I", true)
  | 44 => ("MilkHorseModel", "seenDoor", "[I", true)
  | 45 => ("MilkHorseModel", "manBy", "[I", true)
  | 46 => ("MilkHorseModel", "isThere", "[Z", true)
  | 47 => ("MilkHorseModel", "forms", "[I", true)
  | 48 => ("MilkHorseModel", "sizes", "[I", true)
  | 49 => ("MilkHorseModel", "items", "[I", true)
  | 50 => ("MilkHorseModel", "moved", "[I", true)
  | _ => ("MilkHorseModel", "finding", "I", false)
def t_11 : Nat → FieldType := fun k => match k with
  | 0 => .array (.int)
  | 1 => .array (.int)
  | 2 => .array (.int)
  | 3 => .array (.int)
  | 4 => .int
  | 5 => .array (.int)
  | 6 => .array (.int)
  | 7 => .int
  | 8 => .array (.int)
  | 9 => .array (.int)
  | 10 => .array (.int)
  | 11 => .array (.int)
  | 12 => .array (.int)
  | 13 => .int
  | 14 => .int
  | 15 => .int
  | 16 => .int
  | 17 => .int
  | 18 => .int
  | 19 => .int
  | 20 => .int
  | 21 => .int
  | 22 => .boolean
  | 23 => .int
  | 24 => .int
  | 25 => .int
  | 26 => .int
  | 27 => .int
  | 28 => .int
  | 29 => .array (.int)
  | 30 => .array (.int)
  | 31 => .array (.int)
  | 32 => .array (.int)
  | 33 => .array (.int)
  | 34 => .array (.int)
  | 35 => .array (.int)
  | 36 => .array (.int)
  | 37 => .array (.int)
  | 38 => .int
  | 39 => .int
  | 40 => .int
  | 41 => .array (.int)
  | 42 => .int
  | 43 => .array (.int)
  | 44 => .array (.int)
  | 45 => .array (.int)
  | 46 => .array (.boolean)
  | 47 => .array (.int)
  | 48 => .array (.int)
  | 49 => .array (.int)
  | 50 => .array (.int)
  | _ => .int
theorem n_11 : ∀ a, a < 52 → ∀ b, b < 52 → a ≠ b → (F_11 a).2.1 ≠ (F_11 b).2.1 := by decide +kernel
theorem t_11_ok : ∀ k, k < 52 → parseFieldDescriptor (F_11 k).2.2.1 = some (t_11 k) := by decide +kernel
theorem i_11 : ∀ w ∈ u_ws R_11 F_11 52, w ∈ lw_tbl := by
  have h : u_ws R_11 F_11 52 = ([876, 878, 880, 882, 884, 886, 888, 890, 892, 894, 896, 898, 900, 902, 904, 906, 908, 910, 912, 914, 916, 918, 920, 922, 924, 926, 928, 930, 932, 934, 936, 938, 940, 942, 944, 946, 948, 950, 952, 954, 956, 958, 960, 962, 964, 966, 968, 970, 972, 974, 976, 978] : List Nat).filterMap (fun i => tables_1[i]?) := by decide +kernel
  intro w hw
  rw [h] at hw
  obtain ⟨i, -, hi⟩ := List.mem_filterMap.mp hw
  exact List.mem_append_right _ (List.mem_of_getElem? hi)
theorem ig_11 : ∀ w ∈ u_ws R_11 F_11 52, w ∈ am_tbl := by
  have h : (u_ws R_11 F_11 52).all goodWord = true := by decide +kernel
  intro w hw
  exact List.mem_filter.mpr ⟨i_11 w hw, List.all_eq_true.mp h w hw⟩
def am_cl : List vw_C := [(R_0, F_0, 3), (R_1, F_1, 5), (R_2, F_2, 7), (R_3, F_3, 4), (R_4, F_4, 8), (R_5, F_5, 4), (R_6, F_6, 3), (R_7, F_7, 4), (R_8, F_8, 5), (R_9, F_9, 17), (R_10, F_10, 17), (R_11, F_11, 52)]
