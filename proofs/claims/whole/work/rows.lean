section
-- ===== PART A: goes FIRST, ahead of the names: the tables' words, and 'selects' of the private methods out of them =====
/-- a private method of a class that the tables say can be made, by its rows of tables_1 -/
def lw_okq (q : MethodName × Nat) : Prop := (q.1.cls ≠ "java/lang/invoke/MethodHandle" ∧ q.1.cls ≠ "java/lang/invoke/VarHandle") ∧ Cond.instantiable q.1.cls q.2 ∈ tables_1 ∧ Cond.privateMethod q.1 ∈ tables_1 ∧ Cond.instanceMethod q.1 ∈ tables_1
theorem lw_p0 : lw_okq (⟨"MilkHorse", "textOf", "(I)LMilkHorse$Text;"⟩, 17) := ⟨⟨by decide +kernel, by decide +kernel⟩, List.mem_of_getElem? (i := 18) (by decide +kernel), List.mem_of_getElem? (i := 391) (by decide +kernel), List.mem_of_getElem? (i := 392) (by decide +kernel)⟩
theorem lw_p1 : lw_okq (⟨"MilkHorse", "hearTexts", "()V"⟩, 17) := ⟨⟨by decide +kernel, by decide +kernel⟩, List.mem_of_getElem? (i := 18) (by decide +kernel), List.mem_of_getElem? (i := 399) (by decide +kernel), List.mem_of_getElem? (i := 400) (by decide +kernel)⟩
theorem lw_p2 : lw_okq (⟨"MilkHorse", "forgetMornings", "()V"⟩, 17) := ⟨⟨by decide +kernel, by decide +kernel⟩, List.mem_of_getElem? (i := 18) (by decide +kernel), List.mem_of_getElem? (i := 411) (by decide +kernel), List.mem_of_getElem? (i := 412) (by decide +kernel)⟩
theorem lw_p3 : lw_okq (⟨"MilkHorse", "sheetOf", "(I)LMilkHorse$Sheet;"⟩, 17) := ⟨⟨by decide +kernel, by decide +kernel⟩, List.mem_of_getElem? (i := 18) (by decide +kernel), List.mem_of_getElem? (i := 479) (by decide +kernel), List.mem_of_getElem? (i := 480) (by decide +kernel)⟩
theorem lw_p4 : lw_okq (⟨"MilkHorse", "found", "(I)I"⟩, 17) := ⟨⟨by decide +kernel, by decide +kernel⟩, List.mem_of_getElem? (i := 18) (by decide +kernel), List.mem_of_getElem? (i := 483) (by decide +kernel), List.mem_of_getElem? (i := 484) (by decide +kernel)⟩
theorem lw_p5 : lw_okq (⟨"MilkHorse", "learnDay", "()V"⟩, 17) := ⟨⟨by decide +kernel, by decide +kernel⟩, List.mem_of_getElem? (i := 18) (by decide +kernel), List.mem_of_getElem? (i := 492) (by decide +kernel), List.mem_of_getElem? (i := 493) (by decide +kernel)⟩
theorem lw_p6 : lw_okq (⟨"MilkHorse$Walk", "begin", "(LMilkHorse$Plan;)V"⟩, 17) := ⟨⟨by decide +kernel, by decide +kernel⟩, List.mem_of_getElem? (i := 136) (by decide +kernel), List.mem_of_getElem? (i := 507) (by decide +kernel), List.mem_of_getElem? (i := 508) (by decide +kernel)⟩
theorem lw_p7 : lw_okq (⟨"MilkHorse$Walk", "befall", "(ILMilkHorse$Events;I)V"⟩, 17) := ⟨⟨by decide +kernel, by decide +kernel⟩, List.mem_of_getElem? (i := 136) (by decide +kernel), List.mem_of_getElem? (i := 515) (by decide +kernel), List.mem_of_getElem? (i := 516) (by decide +kernel)⟩
theorem lw_p8 : lw_okq (⟨"MilkHorse$Walk", "pullCart", "(I)V"⟩, 17) := ⟨⟨by decide +kernel, by decide +kernel⟩, List.mem_of_getElem? (i := 136) (by decide +kernel), List.mem_of_getElem? (i := 519) (by decide +kernel), List.mem_of_getElem? (i := 520) (by decide +kernel)⟩
theorem lw_p9 : lw_okq (⟨"MilkHorse$Walk", "breakOne", "(I)V"⟩, 17) := ⟨⟨by decide +kernel, by decide +kernel⟩, List.mem_of_getElem? (i := 136) (by decide +kernel), List.mem_of_getElem? (i := 529) (by decide +kernel), List.mem_of_getElem? (i := 530) (by decide +kernel)⟩
theorem lw_p10 : lw_okq (⟨"MilkHorse$Walk", "act", "(LMilkHorse$Plan;)V"⟩, 17) := ⟨⟨by decide +kernel, by decide +kernel⟩, List.mem_of_getElem? (i := 136) (by decide +kernel), List.mem_of_getElem? (i := 534) (by decide +kernel), List.mem_of_getElem? (i := 535) (by decide +kernel)⟩
theorem lw_p11 : lw_okq (⟨"MilkHorse$Walk", "goTowards", "(I)V"⟩, 17) := ⟨⟨by decide +kernel, by decide +kernel⟩, List.mem_of_getElem? (i := 136) (by decide +kernel), List.mem_of_getElem? (i := 539) (by decide +kernel), List.mem_of_getElem? (i := 540) (by decide +kernel)⟩
theorem lw_p12 : lw_okq (⟨"MilkHorse$Walk", "hasDog", "(I)Z"⟩, 17) := ⟨⟨by decide +kernel, by decide +kernel⟩, List.mem_of_getElem? (i := 136) (by decide +kernel), List.mem_of_getElem? (i := 543) (by decide +kernel), List.mem_of_getElem? (i := 544) (by decide +kernel)⟩
theorem lw_p13 : lw_okq (⟨"MilkHorse$Walk", "fillCrate", "(I)V"⟩, 17) := ⟨⟨by decide +kernel, by decide +kernel⟩, List.mem_of_getElem? (i := 136) (by decide +kernel), List.mem_of_getElem? (i := 547) (by decide +kernel), List.mem_of_getElem? (i := 548) (by decide +kernel)⟩
theorem lw_p14 : lw_okq (⟨"MilkHorse$Walk", "serve", "(LMilkHorse$Plan;I)V"⟩, 17) := ⟨⟨by decide +kernel, by decide +kernel⟩, List.mem_of_getElem? (i := 136) (by decide +kernel), List.mem_of_getElem? (i := 551) (by decide +kernel), List.mem_of_getElem? (i := 552) (by decide +kernel)⟩
theorem lw_p15 : lw_okq (⟨"MilkHorse$Walk", "drive", "(II)V"⟩, 17) := ⟨⟨by decide +kernel, by decide +kernel⟩, List.mem_of_getElem? (i := 136) (by decide +kernel), List.mem_of_getElem? (i := 555) (by decide +kernel), List.mem_of_getElem? (i := 556) (by decide +kernel)⟩
def lw_privs_1 : List (MethodName × Nat) := [(⟨"MilkHorse", "textOf", "(I)LMilkHorse$Text;"⟩, 17), (⟨"MilkHorse", "hearTexts", "()V"⟩, 17), (⟨"MilkHorse", "forgetMornings", "()V"⟩, 17), (⟨"MilkHorse", "sheetOf", "(I)LMilkHorse$Sheet;"⟩, 17), (⟨"MilkHorse", "found", "(I)I"⟩, 17), (⟨"MilkHorse", "learnDay", "()V"⟩, 17), (⟨"MilkHorse$Walk", "begin", "(LMilkHorse$Plan;)V"⟩, 17), (⟨"MilkHorse$Walk", "befall", "(ILMilkHorse$Events;I)V"⟩, 17), (⟨"MilkHorse$Walk", "pullCart", "(I)V"⟩, 17), (⟨"MilkHorse$Walk", "breakOne", "(I)V"⟩, 17), (⟨"MilkHorse$Walk", "act", "(LMilkHorse$Plan;)V"⟩, 17), (⟨"MilkHorse$Walk", "goTowards", "(I)V"⟩, 17), (⟨"MilkHorse$Walk", "hasDog", "(I)Z"⟩, 17), (⟨"MilkHorse$Walk", "fillCrate", "(I)V"⟩, 17), (⟨"MilkHorse$Walk", "serve", "(LMilkHorse$Plan;I)V"⟩, 17), (⟨"MilkHorse$Walk", "drive", "(II)V"⟩, 17)]
theorem lw_r1 : ∀ q ∈ lw_privs_1, lw_okq q := List.forall_mem_cons.mpr ⟨lw_p0, List.forall_mem_cons.mpr ⟨lw_p1, List.forall_mem_cons.mpr ⟨lw_p2, List.forall_mem_cons.mpr ⟨lw_p3, List.forall_mem_cons.mpr ⟨lw_p4, List.forall_mem_cons.mpr ⟨lw_p5, List.forall_mem_cons.mpr ⟨lw_p6, List.forall_mem_cons.mpr ⟨lw_p7, List.forall_mem_cons.mpr ⟨lw_p8, List.forall_mem_cons.mpr ⟨lw_p9, List.forall_mem_cons.mpr ⟨lw_p10, List.forall_mem_cons.mpr ⟨lw_p11, List.forall_mem_cons.mpr ⟨lw_p12, List.forall_mem_cons.mpr ⟨lw_p13, List.forall_mem_cons.mpr ⟨lw_p14, List.forall_mem_cons.mpr ⟨lw_p15, fun _ h => absurd h List.not_mem_nil⟩⟩⟩⟩⟩⟩⟩⟩⟩⟩⟩⟩⟩⟩⟩⟩
theorem lw_p16 : lw_okq (⟨"MilkHorse", "learnSwaps", "()V"⟩, 17) := ⟨⟨by decide +kernel, by decide +kernel⟩, List.mem_of_getElem? (i := 18) (by decide +kernel), List.mem_of_getElem? (i := 635) (by decide +kernel), List.mem_of_getElem? (i := 636) (by decide +kernel)⟩
theorem lw_p17 : lw_okq (⟨"MilkHorse", "learnSpared", "()V"⟩, 17) := ⟨⟨by decide +kernel, by decide +kernel⟩, List.mem_of_getElem? (i := 18) (by decide +kernel), List.mem_of_getElem? (i := 644) (by decide +kernel), List.mem_of_getElem? (i := 645) (by decide +kernel)⟩
theorem lw_p18 : lw_okq (⟨"MilkHorse", "isWellWithout", "(I)Z"⟩, 17) := ⟨⟨by decide +kernel, by decide +kernel⟩, List.mem_of_getElem? (i := 18) (by decide +kernel), List.mem_of_getElem? (i := 652) (by decide +kernel), List.mem_of_getElem? (i := 653) (by decide +kernel)⟩
theorem lw_p19 : lw_okq (⟨"MilkHorse", "comesOutAsSeen", "()Z"⟩, 17) := ⟨⟨by decide +kernel, by decide +kernel⟩, List.mem_of_getElem? (i := 18) (by decide +kernel), List.mem_of_getElem? (i := 677) (by decide +kernel), List.mem_of_getElem? (i := 678) (by decide +kernel)⟩
theorem lw_p20 : lw_okq (⟨"MilkHorse", "gatherCrowds", "()V"⟩, 17) := ⟨⟨by decide +kernel, by decide +kernel⟩, List.mem_of_getElem? (i := 18) (by decide +kernel), List.mem_of_getElem? (i := 697) (by decide +kernel), List.mem_of_getElem? (i := 698) (by decide +kernel)⟩
theorem lw_p21 : lw_okq (⟨"MilkHorse", "learnChances", "()V"⟩, 17) := ⟨⟨by decide +kernel, by decide +kernel⟩, List.mem_of_getElem? (i := 18) (by decide +kernel), List.mem_of_getElem? (i := 708) (by decide +kernel), List.mem_of_getElem? (i := 709) (by decide +kernel)⟩
theorem lw_p22 : lw_okq (⟨"MilkHorse", "mixTold", "(J)J"⟩, 17) := ⟨⟨by decide +kernel, by decide +kernel⟩, List.mem_of_getElem? (i := 18) (by decide +kernel), List.mem_of_getElem? (i := 787) (by decide +kernel), List.mem_of_getElem? (i := 788) (by decide +kernel)⟩
theorem lw_p23 : lw_okq (⟨"MilkHorse", "mixMinutes", "(J)J"⟩, 17) := ⟨⟨by decide +kernel, by decide +kernel⟩, List.mem_of_getElem? (i := 18) (by decide +kernel), List.mem_of_getElem? (i := 795) (by decide +kernel), List.mem_of_getElem? (i := 796) (by decide +kernel)⟩
theorem lw_p24 : lw_okq (⟨"MilkHorse", "mixDoor", "(JI)J"⟩, 17) := ⟨⟨by decide +kernel, by decide +kernel⟩, List.mem_of_getElem? (i := 18) (by decide +kernel), List.mem_of_getElem? (i := 800) (by decide +kernel), List.mem_of_getElem? (i := 801) (by decide +kernel)⟩
theorem lw_p25 : lw_okq (⟨"MilkHorseModel", "faultOf", "(I)I"⟩, 52) := ⟨⟨by decide +kernel, by decide +kernel⟩, List.mem_of_getElem? (i := 819) (by decide +kernel), List.mem_of_getElem? (i := 1005) (by decide +kernel), List.mem_of_getElem? (i := 1006) (by decide +kernel)⟩
theorem lw_p26 : lw_okq (⟨"MilkHorseModel", "toldOf", "(II)I"⟩, 52) := ⟨⟨by decide +kernel, by decide +kernel⟩, List.mem_of_getElem? (i := 819) (by decide +kernel), List.mem_of_getElem? (i := 1019) (by decide +kernel), List.mem_of_getElem? (i := 1020) (by decide +kernel)⟩
theorem lw_p27 : lw_okq (⟨"MilkHorseModel", "reads", "()V"⟩, 52) := ⟨⟨by decide +kernel, by decide +kernel⟩, List.mem_of_getElem? (i := 819) (by decide +kernel), List.mem_of_getElem? (i := 1023) (by decide +kernel), List.mem_of_getElem? (i := 1024) (by decide +kernel)⟩
theorem lw_p28 : lw_okq (⟨"MilkHorseModel", "roundOf", "(I)I"⟩, 52) := ⟨⟨by decide +kernel, by decide +kernel⟩, List.mem_of_getElem? (i := 819) (by decide +kernel), List.mem_of_getElem? (i := 1031) (by decide +kernel), List.mem_of_getElem? (i := 1032) (by decide +kernel)⟩
theorem lw_p29 : lw_okq (⟨"MilkHorseModel", "meets", "(I)I"⟩, 52) := ⟨⟨by decide +kernel, by decide +kernel⟩, List.mem_of_getElem? (i := 819) (by decide +kernel), List.mem_of_getElem? (i := 1060) (by decide +kernel), List.mem_of_getElem? (i := 1061) (by decide +kernel)⟩
theorem lw_p30 : lw_okq (⟨"MilkHorseModel", "atOf", "(II)I"⟩, 52) := ⟨⟨by decide +kernel, by decide +kernel⟩, List.mem_of_getElem? (i := 819) (by decide +kernel), List.mem_of_getElem? (i := 1069) (by decide +kernel), List.mem_of_getElem? (i := 1070) (by decide +kernel)⟩
theorem lw_p31 : lw_okq (⟨"MilkHorseModel", "runsTold", "()V"⟩, 52) := ⟨⟨by decide +kernel, by decide +kernel⟩, List.mem_of_getElem? (i := 819) (by decide +kernel), List.mem_of_getElem? (i := 1073) (by decide +kernel), List.mem_of_getElem? (i := 1074) (by decide +kernel)⟩
def lw_privs_2 : List (MethodName × Nat) := [(⟨"MilkHorse", "learnSwaps", "()V"⟩, 17), (⟨"MilkHorse", "learnSpared", "()V"⟩, 17), (⟨"MilkHorse", "isWellWithout", "(I)Z"⟩, 17), (⟨"MilkHorse", "comesOutAsSeen", "()Z"⟩, 17), (⟨"MilkHorse", "gatherCrowds", "()V"⟩, 17), (⟨"MilkHorse", "learnChances", "()V"⟩, 17), (⟨"MilkHorse", "mixTold", "(J)J"⟩, 17), (⟨"MilkHorse", "mixMinutes", "(J)J"⟩, 17), (⟨"MilkHorse", "mixDoor", "(JI)J"⟩, 17), (⟨"MilkHorseModel", "faultOf", "(I)I"⟩, 52), (⟨"MilkHorseModel", "toldOf", "(II)I"⟩, 52), (⟨"MilkHorseModel", "reads", "()V"⟩, 52), (⟨"MilkHorseModel", "roundOf", "(I)I"⟩, 52), (⟨"MilkHorseModel", "meets", "(I)I"⟩, 52), (⟨"MilkHorseModel", "atOf", "(II)I"⟩, 52), (⟨"MilkHorseModel", "runsTold", "()V"⟩, 52)]
theorem lw_r2 : ∀ q ∈ lw_privs_2, lw_okq q := List.forall_mem_cons.mpr ⟨lw_p16, List.forall_mem_cons.mpr ⟨lw_p17, List.forall_mem_cons.mpr ⟨lw_p18, List.forall_mem_cons.mpr ⟨lw_p19, List.forall_mem_cons.mpr ⟨lw_p20, List.forall_mem_cons.mpr ⟨lw_p21, List.forall_mem_cons.mpr ⟨lw_p22, List.forall_mem_cons.mpr ⟨lw_p23, List.forall_mem_cons.mpr ⟨lw_p24, List.forall_mem_cons.mpr ⟨lw_p25, List.forall_mem_cons.mpr ⟨lw_p26, List.forall_mem_cons.mpr ⟨lw_p27, List.forall_mem_cons.mpr ⟨lw_p28, List.forall_mem_cons.mpr ⟨lw_p29, List.forall_mem_cons.mpr ⟨lw_p30, List.forall_mem_cons.mpr ⟨lw_p31, fun _ h => absurd h List.not_mem_nil⟩⟩⟩⟩⟩⟩⟩⟩⟩⟩⟩⟩⟩⟩⟩⟩
theorem lw_p32 : lw_okq (⟨"MilkHorseModel", "asTold", "()V"⟩, 52) := ⟨⟨by decide +kernel, by decide +kernel⟩, List.mem_of_getElem? (i := 819) (by decide +kernel), List.mem_of_getElem? (i := 1077) (by decide +kernel), List.mem_of_getElem? (i := 1078) (by decide +kernel)⟩
theorem lw_p33 : lw_okq (⟨"MilkHorseModel", "runs", "()V"⟩, 52) := ⟨⟨by decide +kernel, by decide +kernel⟩, List.mem_of_getElem? (i := 819) (by decide +kernel), List.mem_of_getElem? (i := 1081) (by decide +kernel), List.mem_of_getElem? (i := 1082) (by decide +kernel)⟩
theorem lw_p34 : lw_okq (⟨"MilkHorseModel", "runsBy", "(I)V"⟩, 52) := ⟨⟨by decide +kernel, by decide +kernel⟩, List.mem_of_getElem? (i := 819) (by decide +kernel), List.mem_of_getElem? (i := 1085) (by decide +kernel), List.mem_of_getElem? (i := 1086) (by decide +kernel)⟩
theorem lw_p35 : lw_okq (⟨"MilkHorseModel", "goesBy", "(I)V"⟩, 52) := ⟨⟨by decide +kernel, by decide +kernel⟩, List.mem_of_getElem? (i := 819) (by decide +kernel), List.mem_of_getElem? (i := 1089) (by decide +kernel), List.mem_of_getElem? (i := 1090) (by decide +kernel)⟩
theorem lw_p36 : lw_okq (⟨"MilkHorseModel", "befalls", "(I)V"⟩, 52) := ⟨⟨by decide +kernel, by decide +kernel⟩, List.mem_of_getElem? (i := 819) (by decide +kernel), List.mem_of_getElem? (i := 1093) (by decide +kernel), List.mem_of_getElem? (i := 1094) (by decide +kernel)⟩
theorem lw_p37 : lw_okq (⟨"MilkHorseModel", "does", "()I"⟩, 52) := ⟨⟨by decide +kernel, by decide +kernel⟩, List.mem_of_getElem? (i := 819) (by decide +kernel), List.mem_of_getElem? (i := 1103) (by decide +kernel), List.mem_of_getElem? (i := 1104) (by decide +kernel)⟩
theorem lw_p38 : lw_okq (⟨"MilkHorseModel", "wanting", "(I)I"⟩, 52) := ⟨⟨by decide +kernel, by decide +kernel⟩, List.mem_of_getElem? (i := 819) (by decide +kernel), List.mem_of_getElem? (i := 1107) (by decide +kernel), List.mem_of_getElem? (i := 1108) (by decide +kernel)⟩
theorem lw_p39 : lw_okq (⟨"MilkHorseModel", "goes", "(I)I"⟩, 52) := ⟨⟨by decide +kernel, by decide +kernel⟩, List.mem_of_getElem? (i := 819) (by decide +kernel), List.mem_of_getElem? (i := 1111) (by decide +kernel), List.mem_of_getElem? (i := 1112) (by decide +kernel)⟩
theorem lw_p40 : lw_okq (⟨"MilkHorseModel", "fills", "()I"⟩, 52) := ⟨⟨by decide +kernel, by decide +kernel⟩, List.mem_of_getElem? (i := 819) (by decide +kernel), List.mem_of_getElem? (i := 1115) (by decide +kernel), List.mem_of_getElem? (i := 1116) (by decide +kernel)⟩
theorem lw_p41 : lw_okq (⟨"MilkHorseModel", "serves", "(I)I"⟩, 52) := ⟨⟨by decide +kernel, by decide +kernel⟩, List.mem_of_getElem? (i := 819) (by decide +kernel), List.mem_of_getElem? (i := 1122) (by decide +kernel), List.mem_of_getElem? (i := 1123) (by decide +kernel)⟩
theorem lw_p42 : lw_okq (⟨"MilkHorseModel", "follows", "(I)V"⟩, 52) := ⟨⟨by decide +kernel, by decide +kernel⟩, List.mem_of_getElem? (i := 819) (by decide +kernel), List.mem_of_getElem? (i := 1126) (by decide +kernel), List.mem_of_getElem? (i := 1127) (by decide +kernel)⟩
theorem lw_p43 : lw_okq (⟨"MilkHorseModel", "doorOf", "(III)I"⟩, 52) := ⟨⟨by decide +kernel, by decide +kernel⟩, List.mem_of_getElem? (i := 819) (by decide +kernel), List.mem_of_getElem? (i := 1134) (by decide +kernel), List.mem_of_getElem? (i := 1135) (by decide +kernel)⟩
theorem lw_p44 : lw_okq (⟨"MilkHorseModel", "doneOf", "(I)I"⟩, 52) := ⟨⟨by decide +kernel, by decide +kernel⟩, List.mem_of_getElem? (i := 819) (by decide +kernel), List.mem_of_getElem? (i := 1142) (by decide +kernel), List.mem_of_getElem? (i := 1143) (by decide +kernel)⟩
theorem lw_p45 : lw_okq (⟨"MilkHorseModel", "sumOf", "(I)I"⟩, 52) := ⟨⟨by decide +kernel, by decide +kernel⟩, List.mem_of_getElem? (i := 819) (by decide +kernel), List.mem_of_getElem? (i := 1150) (by decide +kernel), List.mem_of_getElem? (i := 1151) (by decide +kernel)⟩
theorem lw_p46 : lw_okq (⟨"MilkHorseModel", "overOf", "()I"⟩, 52) := ⟨⟨by decide +kernel, by decide +kernel⟩, List.mem_of_getElem? (i := 819) (by decide +kernel), List.mem_of_getElem? (i := 1158) (by decide +kernel), List.mem_of_getElem? (i := 1159) (by decide +kernel)⟩
theorem lw_p47 : lw_okq (⟨"MilkHorseModel", "lacksOf", "()I"⟩, 52) := ⟨⟨by decide +kernel, by decide +kernel⟩, List.mem_of_getElem? (i := 819) (by decide +kernel), List.mem_of_getElem? (i := 1166) (by decide +kernel), List.mem_of_getElem? (i := 1167) (by decide +kernel)⟩
def lw_privs_3 : List (MethodName × Nat) := [(⟨"MilkHorseModel", "asTold", "()V"⟩, 52), (⟨"MilkHorseModel", "runs", "()V"⟩, 52), (⟨"MilkHorseModel", "runsBy", "(I)V"⟩, 52), (⟨"MilkHorseModel", "goesBy", "(I)V"⟩, 52), (⟨"MilkHorseModel", "befalls", "(I)V"⟩, 52), (⟨"MilkHorseModel", "does", "()I"⟩, 52), (⟨"MilkHorseModel", "wanting", "(I)I"⟩, 52), (⟨"MilkHorseModel", "goes", "(I)I"⟩, 52), (⟨"MilkHorseModel", "fills", "()I"⟩, 52), (⟨"MilkHorseModel", "serves", "(I)I"⟩, 52), (⟨"MilkHorseModel", "follows", "(I)V"⟩, 52), (⟨"MilkHorseModel", "doorOf", "(III)I"⟩, 52), (⟨"MilkHorseModel", "doneOf", "(I)I"⟩, 52), (⟨"MilkHorseModel", "sumOf", "(I)I"⟩, 52), (⟨"MilkHorseModel", "overOf", "()I"⟩, 52), (⟨"MilkHorseModel", "lacksOf", "()I"⟩, 52)]
theorem lw_r3 : ∀ q ∈ lw_privs_3, lw_okq q := List.forall_mem_cons.mpr ⟨lw_p32, List.forall_mem_cons.mpr ⟨lw_p33, List.forall_mem_cons.mpr ⟨lw_p34, List.forall_mem_cons.mpr ⟨lw_p35, List.forall_mem_cons.mpr ⟨lw_p36, List.forall_mem_cons.mpr ⟨lw_p37, List.forall_mem_cons.mpr ⟨lw_p38, List.forall_mem_cons.mpr ⟨lw_p39, List.forall_mem_cons.mpr ⟨lw_p40, List.forall_mem_cons.mpr ⟨lw_p41, List.forall_mem_cons.mpr ⟨lw_p42, List.forall_mem_cons.mpr ⟨lw_p43, List.forall_mem_cons.mpr ⟨lw_p44, List.forall_mem_cons.mpr ⟨lw_p45, List.forall_mem_cons.mpr ⟨lw_p46, List.forall_mem_cons.mpr ⟨lw_p47, fun _ h => absurd h List.not_mem_nil⟩⟩⟩⟩⟩⟩⟩⟩⟩⟩⟩⟩⟩⟩⟩⟩
theorem lw_p48 : lw_okq (⟨"MilkHorseModel", "shortNow", "()I"⟩, 52) := ⟨⟨by decide +kernel, by decide +kernel⟩, List.mem_of_getElem? (i := 819) (by decide +kernel), List.mem_of_getElem? (i := 1170) (by decide +kernel), List.mem_of_getElem? (i := 1171) (by decide +kernel)⟩
theorem lw_p49 : lw_okq (⟨"MilkHorseModel", "betterOf", "(I)I"⟩, 52) := ⟨⟨by decide +kernel, by decide +kernel⟩, List.mem_of_getElem? (i := 819) (by decide +kernel), List.mem_of_getElem? (i := 1178) (by decide +kernel), List.mem_of_getElem? (i := 1179) (by decide +kernel)⟩
theorem lw_p50 : lw_okq (⟨"MilkHorseModel", "starts", "()V"⟩, 52) := ⟨⟨by decide +kernel, by decide +kernel⟩, List.mem_of_getElem? (i := 819) (by decide +kernel), List.mem_of_getElem? (i := 1182) (by decide +kernel), List.mem_of_getElem? (i := 1183) (by decide +kernel)⟩
theorem lw_p51 : lw_okq (⟨"MilkHorseModel", "tries", "(I)V"⟩, 52) := ⟨⟨by decide +kernel, by decide +kernel⟩, List.mem_of_getElem? (i := 819) (by decide +kernel), List.mem_of_getElem? (i := 1186) (by decide +kernel), List.mem_of_getElem? (i := 1187) (by decide +kernel)⟩
theorem lw_p52 : lw_okq (⟨"MilkHorseModel", "manyShort", "()I"⟩, 52) := ⟨⟨by decide +kernel, by decide +kernel⟩, List.mem_of_getElem? (i := 819) (by decide +kernel), List.mem_of_getElem? (i := 1190) (by decide +kernel), List.mem_of_getElem? (i := 1191) (by decide +kernel)⟩
theorem lw_p53 : lw_okq (⟨"MilkHorseModel", "fitOf", "(I)I"⟩, 52) := ⟨⟨by decide +kernel, by decide +kernel⟩, List.mem_of_getElem? (i := 819) (by decide +kernel), List.mem_of_getElem? (i := 1198) (by decide +kernel), List.mem_of_getElem? (i := 1199) (by decide +kernel)⟩
theorem lw_p54 : lw_okq (⟨"MilkHorseModel", "swapOf", "(I)I"⟩, 52) := ⟨⟨by decide +kernel, by decide +kernel⟩, List.mem_of_getElem? (i := 819) (by decide +kernel), List.mem_of_getElem? (i := 1206) (by decide +kernel), List.mem_of_getElem? (i := 1207) (by decide +kernel)⟩
theorem lw_p55 : lw_okq (⟨"MilkHorseModel", "spareBy", "()I"⟩, 52) := ⟨⟨by decide +kernel, by decide +kernel⟩, List.mem_of_getElem? (i := 819) (by decide +kernel), List.mem_of_getElem? (i := 1214) (by decide +kernel), List.mem_of_getElem? (i := 1215) (by decide +kernel)⟩
theorem lw_p56 : lw_okq (⟨"MilkHorseModel", "isSpared", "(I)Z"⟩, 52) := ⟨⟨by decide +kernel, by decide +kernel⟩, List.mem_of_getElem? (i := 819) (by decide +kernel), List.mem_of_getElem? (i := 1218) (by decide +kernel), List.mem_of_getElem? (i := 1219) (by decide +kernel)⟩
theorem lw_p57 : lw_okq (⟨"MilkHorseModel", "ofRow", "(II)I"⟩, 52) := ⟨⟨by decide +kernel, by decide +kernel⟩, List.mem_of_getElem? (i := 819) (by decide +kernel), List.mem_of_getElem? (i := 1222) (by decide +kernel), List.mem_of_getElem? (i := 1223) (by decide +kernel)⟩
theorem lw_p58 : lw_okq (⟨"MilkHorseModel", "neverNow", "()I"⟩, 52) := ⟨⟨by decide +kernel, by decide +kernel⟩, List.mem_of_getElem? (i := 819) (by decide +kernel), List.mem_of_getElem? (i := 1238) (by decide +kernel), List.mem_of_getElem? (i := 1239) (by decide +kernel)⟩
theorem lw_p59 : lw_okq (⟨"MilkHorseModel", "isSeen", "()Z"⟩, 52) := ⟨⟨by decide +kernel, by decide +kernel⟩, List.mem_of_getElem? (i := 819) (by decide +kernel), List.mem_of_getElem? (i := 1242) (by decide +kernel), List.mem_of_getElem? (i := 1243) (by decide +kernel)⟩
theorem lw_p60 : lw_okq (⟨"MilkHorseModel", "numbersBy", "(I)I"⟩, 52) := ⟨⟨by decide +kernel, by decide +kernel⟩, List.mem_of_getElem? (i := 819) (by decide +kernel), List.mem_of_getElem? (i := 1250) (by decide +kernel), List.mem_of_getElem? (i := 1251) (by decide +kernel)⟩
theorem lw_p61 : lw_okq (⟨"MilkHorseModel", "kindsBy", "()I"⟩, 52) := ⟨⟨by decide +kernel, by decide +kernel⟩, List.mem_of_getElem? (i := 819) (by decide +kernel), List.mem_of_getElem? (i := 1258) (by decide +kernel), List.mem_of_getElem? (i := 1259) (by decide +kernel)⟩
theorem lw_p62 : lw_okq (⟨"MilkHorseModel", "roomsBy", "()I"⟩, 52) := ⟨⟨by decide +kernel, by decide +kernel⟩, List.mem_of_getElem? (i := 819) (by decide +kernel), List.mem_of_getElem? (i := 1262) (by decide +kernel), List.mem_of_getElem? (i := 1263) (by decide +kernel)⟩
theorem lw_p63 : lw_okq (⟨"MilkHorseModel", "askOf", "()I"⟩, 52) := ⟨⟨by decide +kernel, by decide +kernel⟩, List.mem_of_getElem? (i := 819) (by decide +kernel), List.mem_of_getElem? (i := 1270) (by decide +kernel), List.mem_of_getElem? (i := 1271) (by decide +kernel)⟩
def lw_privs_4 : List (MethodName × Nat) := [(⟨"MilkHorseModel", "shortNow", "()I"⟩, 52), (⟨"MilkHorseModel", "betterOf", "(I)I"⟩, 52), (⟨"MilkHorseModel", "starts", "()V"⟩, 52), (⟨"MilkHorseModel", "tries", "(I)V"⟩, 52), (⟨"MilkHorseModel", "manyShort", "()I"⟩, 52), (⟨"MilkHorseModel", "fitOf", "(I)I"⟩, 52), (⟨"MilkHorseModel", "swapOf", "(I)I"⟩, 52), (⟨"MilkHorseModel", "spareBy", "()I"⟩, 52), (⟨"MilkHorseModel", "isSpared", "(I)Z"⟩, 52), (⟨"MilkHorseModel", "ofRow", "(II)I"⟩, 52), (⟨"MilkHorseModel", "neverNow", "()I"⟩, 52), (⟨"MilkHorseModel", "isSeen", "()Z"⟩, 52), (⟨"MilkHorseModel", "numbersBy", "(I)I"⟩, 52), (⟨"MilkHorseModel", "kindsBy", "()I"⟩, 52), (⟨"MilkHorseModel", "roomsBy", "()I"⟩, 52), (⟨"MilkHorseModel", "askOf", "()I"⟩, 52)]
theorem lw_r4 : ∀ q ∈ lw_privs_4, lw_okq q := List.forall_mem_cons.mpr ⟨lw_p48, List.forall_mem_cons.mpr ⟨lw_p49, List.forall_mem_cons.mpr ⟨lw_p50, List.forall_mem_cons.mpr ⟨lw_p51, List.forall_mem_cons.mpr ⟨lw_p52, List.forall_mem_cons.mpr ⟨lw_p53, List.forall_mem_cons.mpr ⟨lw_p54, List.forall_mem_cons.mpr ⟨lw_p55, List.forall_mem_cons.mpr ⟨lw_p56, List.forall_mem_cons.mpr ⟨lw_p57, List.forall_mem_cons.mpr ⟨lw_p58, List.forall_mem_cons.mpr ⟨lw_p59, List.forall_mem_cons.mpr ⟨lw_p60, List.forall_mem_cons.mpr ⟨lw_p61, List.forall_mem_cons.mpr ⟨lw_p62, List.forall_mem_cons.mpr ⟨lw_p63, fun _ h => absurd h List.not_mem_nil⟩⟩⟩⟩⟩⟩⟩⟩⟩⟩⟩⟩⟩⟩⟩⟩
theorem lw_p64 : lw_okq (⟨"MilkHorseModel", "chanceOf", "(III)J"⟩, 52) := ⟨⟨by decide +kernel, by decide +kernel⟩, List.mem_of_getElem? (i := 819) (by decide +kernel), List.mem_of_getElem? (i := 1278) (by decide +kernel), List.mem_of_getElem? (i := 1279) (by decide +kernel)⟩
theorem lw_p65 : lw_okq (⟨"MilkHorseModel", "morningsOf", "(III)I"⟩, 52) := ⟨⟨by decide +kernel, by decide +kernel⟩, List.mem_of_getElem? (i := 819) (by decide +kernel), List.mem_of_getElem? (i := 1293) (by decide +kernel), List.mem_of_getElem? (i := 1294) (by decide +kernel)⟩
theorem lw_p66 : lw_okq (⟨"MilkHorseModel", "lacks", "(III)I"⟩, 52) := ⟨⟨by decide +kernel, by decide +kernel⟩, List.mem_of_getElem? (i := 819) (by decide +kernel), List.mem_of_getElem? (i := 1310) (by decide +kernel), List.mem_of_getElem? (i := 1311) (by decide +kernel)⟩
theorem lw_p67 : lw_okq (⟨"MilkHorseModel", "keep", "(III)V"⟩, 52) := ⟨⟨by decide +kernel, by decide +kernel⟩, List.mem_of_getElem? (i := 819) (by decide +kernel), List.mem_of_getElem? (i := 1314) (by decide +kernel), List.mem_of_getElem? (i := 1315) (by decide +kernel)⟩
theorem lw_p68 : lw_okq (⟨"MilkHorseModel", "roundsOf", "()I"⟩, 52) := ⟨⟨by decide +kernel, by decide +kernel⟩, List.mem_of_getElem? (i := 819) (by decide +kernel), List.mem_of_getElem? (i := 1335) (by decide +kernel), List.mem_of_getElem? (i := 1336) (by decide +kernel)⟩
theorem lw_p69 : lw_okq (⟨"MilkHorseModel", "shortOf", "()I"⟩, 52) := ⟨⟨by decide +kernel, by decide +kernel⟩, List.mem_of_getElem? (i := 819) (by decide +kernel), List.mem_of_getElem? (i := 1339) (by decide +kernel), List.mem_of_getElem? (i := 1340) (by decide +kernel)⟩
theorem lw_p70 : lw_okq (⟨"MilkHorseModel", "doorDigest", "(JI)J"⟩, 52) := ⟨⟨by decide +kernel, by decide +kernel⟩, List.mem_of_getElem? (i := 819) (by decide +kernel), List.mem_of_getElem? (i := 1350) (by decide +kernel), List.mem_of_getElem? (i := 1351) (by decide +kernel)⟩
theorem lw_p71 : lw_okq (⟨"MilkHorseModel", "planDigest", "(J)J"⟩, 52) := ⟨⟨by decide +kernel, by decide +kernel⟩, List.mem_of_getElem? (i := 819) (by decide +kernel), List.mem_of_getElem? (i := 1354) (by decide +kernel), List.mem_of_getElem? (i := 1355) (by decide +kernel)⟩
def lw_privs_5 : List (MethodName × Nat) := [(⟨"MilkHorseModel", "chanceOf", "(III)J"⟩, 52), (⟨"MilkHorseModel", "morningsOf", "(III)I"⟩, 52), (⟨"MilkHorseModel", "lacks", "(III)I"⟩, 52), (⟨"MilkHorseModel", "keep", "(III)V"⟩, 52), (⟨"MilkHorseModel", "roundsOf", "()I"⟩, 52), (⟨"MilkHorseModel", "shortOf", "()I"⟩, 52), (⟨"MilkHorseModel", "doorDigest", "(JI)J"⟩, 52), (⟨"MilkHorseModel", "planDigest", "(J)J"⟩, 52)]
theorem lw_r5 : ∀ q ∈ lw_privs_5, lw_okq q := List.forall_mem_cons.mpr ⟨lw_p64, List.forall_mem_cons.mpr ⟨lw_p65, List.forall_mem_cons.mpr ⟨lw_p66, List.forall_mem_cons.mpr ⟨lw_p67, List.forall_mem_cons.mpr ⟨lw_p68, List.forall_mem_cons.mpr ⟨lw_p69, List.forall_mem_cons.mpr ⟨lw_p70, List.forall_mem_cons.mpr ⟨lw_p71, fun _ h => absurd h List.not_mem_nil⟩⟩⟩⟩⟩⟩⟩⟩
def lw_privs : List (MethodName × Nat) := lw_privs_1 ++ (lw_privs_2 ++ (lw_privs_3 ++ (lw_privs_4 ++ (lw_privs_5))))
def lw_tbl : List Cond := k2_sels lw_privs ++ tables_1
theorem lw_privs_ok : ∀ q ∈ lw_privs, lw_okq q := by
  show ∀ q ∈ lw_privs_1 ++ (lw_privs_2 ++ (lw_privs_3 ++ (lw_privs_4 ++ (lw_privs_5)))), lw_okq q
  exact List.forall_mem_append.mpr ⟨lw_r1, List.forall_mem_append.mpr ⟨lw_r2, List.forall_mem_append.mpr ⟨lw_r3, List.forall_mem_append.mpr ⟨lw_r4, lw_r5⟩⟩⟩⟩

def R_law : String := "MilkHorseLaw"
def lw_P (b : Addr) (xs : List Int32) (args : Array Value) (s : State) : Prop := args = #[.ref b] ∧ s.IntsAt b xs ∧ xs.length ≤ 3072 ∧ (Jvm.Cond.and given_1 narrow_1).before args s = true
def lw_Q (_ : Array Value) (s : State) (o : Outcome) (t : State) : Prop := o = .returned (some (.int 1)) ∧ Framed s o t [] 600000 7302250
def lw_Z (below : List Frame) (a : Array Value) (s : State) : State → Prop := fun t => ∃ o, t.status = .running ∧ Ended t below o ∧ lw_Q a s o t
/-- the law's own end, with 1 on the stack, nothing written that was there before, its room as the claim has it -/
theorem lw_ret {p : Program} {l : Launch} {e : Env} {s : State} {m : MethodId} {below : List Frame} {meth : Method} {c : Code} {b : Nat} (hx : p.tables.exec = Jvm.exec) (hb : c.code = code) (hr : meth.sig.returnType = ret) (hlocks : meth.locks = false) {pc : Nat} {H : Heap} {ls : Array Slot} (hdg : decode code pc = .ok (.ireturn, 1)) : W p l e room_1 s m #[Value.ref b] below meth c H [] 600000 7302250 (lw_Z below #[Value.ref b] s) (F0 m pc ls [.int 1]) := by
  intro T hT X
  obtain ⟨fs, hret, hrun, hended, hW, hframe⟩ := X.leave (v := some (.int 1)) (hlocks := hlocks) (fun h => by rw [hr] at h; cases h)
  have hmeth' : T.vm.method? m = some meth := X.method'
  refine ⟨T.setFrames fs, ?_, .returned (some (.int 1)), hrun, hended, rfl, ⟨_, rfl⟩, hW, hframe⟩
  jvm_step X.here [X.here.top, hx, hb, hdg, hmeth', hr, ret, narrow_b1]
  (try refine ⟨rfl, ?_⟩); (try refine ⟨rfl, ?_⟩)
  first | (intro acts; rw [hret _ acts rfl rfl rfl]) | rw [hret _ _ rfl rfl rfl]
  exact Steps.refl _
/-- what holds at the law's entry: the machine, the code, the tables' words (any of lw_tbl by 'hts w (by decide +kernel)'), the script of L ints xs at the cell b, what the Statement gives of the start (any of its parts by flat_of_before) -/
def lw_At (p : Program) (s : State) (m : MethodId) (meth : Method) (c : Code) (b L : Nat) (xs : Nat → Int32) : Prop :=
  p.tables.exec = Jvm.exec ∧ c.code = code ∧ meth.sig.returnType = ret ∧ c.maxLocals = 4 ∧ s.vm.findClass R_law = some m.cls ∧ (∀ w ∈ lw_tbl, w.before #[Value.ref b] s = true) ∧ va_X b L xs s s.heap ∧ b < s.heap.size ∧ meth.locks = false ∧ (Jvm.Cond.and given_1 narrow_1).before #[Value.ref b] s = true

/-- the words that hold at every call too -/
def am_tbl : List Cond := lw_tbl.filter goodWord
theorem am_mem {w : Cond} {i : Nat} (hi : tables_1[i]? = some w) (hg : goodWord w = true) : w ∈ am_tbl := List.mem_filter.mpr ⟨List.mem_append_right _ (List.mem_of_getElem? hi), hg⟩
theorem am_memS {w : Cond} {i : Nat} (hi : (k2_sels lw_privs)[i]? = some w) (hg : goodWord w = true) : w ∈ am_tbl := List.mem_filter.mpr ⟨List.mem_append_left _ (List.mem_of_getElem? hi), hg⟩
def am_isN : Cond → Bool
  | .fieldLinkNest .. => true
  | .methodLinkNest .. => true
  | _ => false
/-- the links to nest mates: they hold at every call too, but not as words -/
def am_nest : List Cond := tables_1.filter am_isN
theorem am_memN {w : Cond} {i : Nat} (hi : tables_1[i]? = some w) (hg : am_isN w = true) : w ∈ am_nest := List.mem_filter.mpr ⟨List.mem_of_getElem? hi, hg⟩
def am_N (U : State) : Prop := ∀ w ∈ am_nest, va_Nw w U
theorem am_N_warm {s U : State} (hW : s.WarmedH U.vm) (h : am_N s) : am_N U := by
  intro w hw
  have h1 := h w hw
  have h2 := (List.mem_filter.mp hw).2
  cases w with
  | fieldLinkNest a i b n d h => exact va_Nw.warmF hW h1
  | methodLinkNest a i x h => exact va_Nw.warmM hW h1
  | _ => cases h2
theorem am_N_vm {u U : State} (hv : u.vm = U.vm) (h : am_N u) : am_N U := by
  intro w hw
  have h1 := h w hw
  have h2 := (List.mem_filter.mp hw).2
  cases w with
  | fieldLinkNest a i b n d h => exact va_tabs rfl hv h1
  | methodLinkNest a i x h => exact va_tabs rfl hv h1
  | _ => cases h2
theorem am_N_of {s : State} {args : Array Value} (h : ∀ w ∈ lw_tbl, w.before args s = true) : am_N s := by
  intro w hw
  obtain ⟨h1, h2⟩ := List.mem_filter.mp hw
  have h3 := h w (List.mem_append_right _ h1)
  cases w with
  | fieldLinkNest a i b n d h => exact va_tabs rfl rfl h3
  | methodLinkNest a i x h => exact va_tabs rfl rfl h3
  | _ => cases h2
theorem am_good : GoodIn lw_tbl am_tbl := fun w hw => ⟨(List.mem_filter.mp hw).1, good_of_word (List.mem_filter.mp hw).2⟩
theorem am_goodS : GoodIn am_tbl am_tbl := fun w hw => ⟨hw, good_of_word (List.mem_filter.mp hw).2⟩
def R_0 : String := "MilkHorse$Chances"
def F_0 : u_T := fun k => match k with
  | 0 => ("MilkHorse$Chances", "lacking", "[I", true)
  | 1 => ("MilkHorse$Chances", "weights", "[J", true)
  | _ => ("MilkHorse$Chances", "known", "Z", false)
def t_0 : Nat → FieldType := fun k => match k with
  | 0 => .array (.int)
  | 1 => .array (.long)
  | _ => .boolean
theorem n_0 : ∀ a, a < 3 → ∀ b, b < 3 → a ≠ b → (F_0 a).2.1 ≠ (F_0 b).2.1 := by decide +kernel
theorem t_0_ok : ∀ k, k < 3 → parseFieldDescriptor (F_0 k).2.2.1 = some (t_0 k) := by decide +kernel
theorem i_0 : ∀ w ∈ u_ws R_0 F_0 3, w ∈ lw_tbl := by
  have h : u_ws R_0 F_0 3 = ([302, 304, 306] : List Nat).filterMap (fun i => tables_1[i]?) := by decide +kernel
  intro w hw
  rw [h] at hw
  obtain ⟨i, -, hi⟩ := List.mem_filterMap.mp hw
  exact List.mem_append_right _ (List.mem_of_getElem? hi)
theorem ig_0 : ∀ w ∈ u_ws R_0 F_0 3, w ∈ am_tbl := by
  have h : (u_ws R_0 F_0 3).all goodWord = true := by decide +kernel
  intro w hw
  exact List.mem_filter.mpr ⟨i_0 w hw, List.all_eq_true.mp h w hw⟩
def R_1 : String := "MilkHorse$Choice"
def F_1 : u_T := fun k => match k with
  | 0 => ("MilkHorse$Choice", "first", "I", false)
  | 1 => ("MilkHorse$Choice", "second", "I", false)
  | 2 => ("MilkHorse$Choice", "lacking", "I", false)
  | 3 => ("MilkHorse$Choice", "walked", "I", false)
  | _ => ("MilkHorse$Choice", "known", "Z", false)
def t_1 : Nat → FieldType := fun k => match k with
  | 0 => .int
  | 1 => .int
  | 2 => .int
  | 3 => .int
  | _ => .boolean
theorem n_1 : ∀ a, a < 5 → ∀ b, b < 5 → a ≠ b → (F_1 a).2.1 ≠ (F_1 b).2.1 := by decide +kernel
theorem t_1_ok : ∀ k, k < 5 → parseFieldDescriptor (F_1 k).2.2.1 = some (t_1 k) := by decide +kernel
theorem i_1 : ∀ w ∈ u_ws R_1 F_1 5, w ∈ lw_tbl := by
  have h : u_ws R_1 F_1 5 = ([257, 259, 261, 263, 265] : List Nat).filterMap (fun i => tables_1[i]?) := by decide +kernel
  intro w hw
  rw [h] at hw
  obtain ⟨i, -, hi⟩ := List.mem_filterMap.mp hw
  exact List.mem_append_right _ (List.mem_of_getElem? hi)
theorem ig_1 : ∀ w ∈ u_ws R_1 F_1 5, w ∈ am_tbl := by
  have h : (u_ws R_1 F_1 5).all goodWord = true := by decide +kernel
  intro w hw
  exact List.mem_filter.mpr ⟨i_1 w hw, List.all_eq_true.mp h w hw⟩
def R_2 : String := "MilkHorse$Day"
def F_2 : u_T := fun k => match k with
  | 0 => ("MilkHorse$Day", "acts", "[I", true)
  | 1 => ("MilkHorse$Day", "doors", "[I", true)
  | 2 => ("MilkHorse$Day", "doneIn", "[I", true)
  | 3 => ("MilkHorse$Day", "sums", "[I", true)
  | 4 => ("MilkHorse$Day", "overIn", "I", false)
  | 5 => ("MilkHorse$Day", "lacking", "I", false)
  | _ => ("MilkHorse$Day", "known", "Z", false)
def t_2 : Nat → FieldType := fun k => match k with
  | 0 => .array (.int)
  | 1 => .array (.int)
  | 2 => .array (.int)
  | 3 => .array (.int)
  | 4 => .int
  | 5 => .int
  | _ => .boolean
theorem n_2 : ∀ a, a < 7 → ∀ b, b < 7 → a ≠ b → (F_2 a).2.1 ≠ (F_2 b).2.1 := by decide +kernel
theorem t_2_ok : ∀ k, k < 7 → parseFieldDescriptor (F_2 k).2.2.1 = some (t_2 k) := by decide +kernel
theorem i_2 : ∀ w ∈ u_ws R_2 F_2 7, w ∈ lw_tbl := by
  have h : u_ws R_2 F_2 7 = ([229, 231, 233, 235, 237, 239, 241] : List Nat).filterMap (fun i => tables_1[i]?) := by decide +kernel
  intro w hw
  rw [h] at hw
  obtain ⟨i, -, hi⟩ := List.mem_filterMap.mp hw
  exact List.mem_append_right _ (List.mem_of_getElem? hi)
theorem ig_2 : ∀ w ∈ u_ws R_2 F_2 7, w ∈ am_tbl := by
  have h : (u_ws R_2 F_2 7).all goodWord = true := by decide +kernel
  intro w hw
  exact List.mem_filter.mpr ⟨i_2 w hw, List.all_eq_true.mp h w hw⟩
def R_3 : String := "MilkHorse$Events"
def F_3 : u_T := fun k => match k with
  | 0 => ("MilkHorse$Events", "kinds", "[I", true)
  | 1 => ("MilkHorse$Events", "minutes", "[I", true)
  | 2 => ("MilkHorse$Events", "numbers", "[I", true)
  | _ => ("MilkHorse$Events", "many", "I", false)
def t_3 : Nat → FieldType := fun k => match k with
  | 0 => .array (.int)
  | 1 => .array (.int)
  | 2 => .array (.int)
  | _ => .int
theorem n_3 : ∀ a, a < 4 → ∀ b, b < 4 → a ≠ b → (F_3 a).2.1 ≠ (F_3 b).2.1 := by decide +kernel
theorem t_3_ok : ∀ k, k < 4 → parseFieldDescriptor (F_3 k).2.2.1 = some (t_3 k) := by decide +kernel
theorem i_3 : ∀ w ∈ u_ws R_3 F_3 4, w ∈ lw_tbl := by
  have h : u_ws R_3 F_3 4 = ([64, 66, 68, 70] : List Nat).filterMap (fun i => tables_1[i]?) := by decide +kernel
  intro w hw
  rw [h] at hw
  obtain ⟨i, -, hi⟩ := List.mem_filterMap.mp hw
  exact List.mem_append_right _ (List.mem_of_getElem? hi)
theorem ig_3 : ∀ w ∈ u_ws R_3 F_3 4, w ∈ am_tbl := by
  have h : (u_ws R_3 F_3 4).all goodWord = true := by decide +kernel
  intro w hw
  exact List.mem_filter.mpr ⟨i_3 w hw, List.all_eq_true.mp h w hw⟩
def R_4 : String := "MilkHorse$Plan"
def F_4 : u_T := fun k => match k with
  | 0 => ("MilkHorse$Plan", "wants", "[I", true)
  | 1 => ("MilkHorse$Plan", "empties", "[I", true)
  | 2 => ("MilkHorse$Plan", "round", "[I", true)
  | 3 => ("MilkHorse$Plan", "places", "I", false)
  | 4 => ("MilkHorse$Plan", "horse", "I", false)
  | 5 => ("MilkHorse$Plan", "room", "I", false)
  | 6 => ("MilkHorse$Plan", "cart", "I", false)
  | _ => ("MilkHorse$Plan", "absent", "I", false)
def t_4 : Nat → FieldType := fun k => match k with
  | 0 => .array (.int)
  | 1 => .array (.int)
  | 2 => .array (.int)
  | 3 => .int
  | 4 => .int
  | 5 => .int
  | 6 => .int
  | _ => .int
theorem n_4 : ∀ a, a < 8 → ∀ b, b < 8 → a ≠ b → (F_4 a).2.1 ≠ (F_4 b).2.1 := by decide +kernel
theorem t_4_ok : ∀ k, k < 8 → parseFieldDescriptor (F_4 k).2.2.1 = some (t_4 k) := by decide +kernel
theorem i_4 : ∀ w ∈ u_ws R_4 F_4 8, w ∈ lw_tbl := by
  have h : u_ws R_4 F_4 8 = ([118, 120, 122, 124, 126, 128, 130, 132] : List Nat).filterMap (fun i => tables_1[i]?) := by decide +kernel
  intro w hw
  rw [h] at hw
  obtain ⟨i, -, hi⟩ := List.mem_filterMap.mp hw
  exact List.mem_append_right _ (List.mem_of_getElem? hi)
theorem ig_4 : ∀ w ∈ u_ws R_4 F_4 8, w ∈ am_tbl := by
  have h : (u_ws R_4 F_4 8).all goodWord = true := by decide +kernel
  intro w hw
  exact List.mem_filter.mpr ⟨i_4 w hw, List.all_eq_true.mp h w hw⟩
def R_5 : String := "MilkHorse$Sheet"
def F_5 : u_T := fun k => match k with
  | 0 => ("MilkHorse$Sheet", "items", "[I", true)
  | 1 => ("MilkHorse$Sheet", "form", "I", false)
  | 2 => ("MilkHorse$Sheet", "length", "I", false)
  | _ => ("MilkHorse$Sheet", "lost", "Z", false)
def t_5 : Nat → FieldType := fun k => match k with
  | 0 => .array (.int)
  | 1 => .int
  | 2 => .int
  | _ => .boolean
theorem n_5 : ∀ a, a < 4 → ∀ b, b < 4 → a ≠ b → (F_5 a).2.1 ≠ (F_5 b).2.1 := by decide +kernel
theorem t_5_ok : ∀ k, k < 4 → parseFieldDescriptor (F_5 k).2.2.1 = some (t_5 k) := by decide +kernel
theorem i_5 : ∀ w ∈ u_ws R_5 F_5 4, w ∈ lw_tbl := by
  have h : u_ws R_5 F_5 4 = ([325, 327, 329, 331] : List Nat).filterMap (fun i => tables_1[i]?) := by decide +kernel
  intro w hw
  rw [h] at hw
  obtain ⟨i, -, hi⟩ := List.mem_filterMap.mp hw
  exact List.mem_append_right _ (List.mem_of_getElem? hi)
theorem ig_5 : ∀ w ∈ u_ws R_5 F_5 4, w ∈ am_tbl := by
  have h : (u_ws R_5 F_5 4).all goodWord = true := by decide +kernel
  intro w hw
  exact List.mem_filter.mpr ⟨i_5 w hw, List.all_eq_true.mp h w hw⟩
def R_6 : String := "MilkHorse$Sights"
def F_6 : u_T := fun k => match k with
  | 0 => ("MilkHorse$Sights", "minutes", "[I", true)
  | 1 => ("MilkHorse$Sights", "doors", "[I", true)
  | _ => ("MilkHorse$Sights", "many", "I", false)
def t_6 : Nat → FieldType := fun k => match k with
  | 0 => .array (.int)
  | 1 => .array (.int)
  | _ => .int
theorem n_6 : ∀ a, a < 3 → ∀ b, b < 3 → a ≠ b → (F_6 a).2.1 ≠ (F_6 b).2.1 := by decide +kernel
theorem t_6_ok : ∀ k, k < 3 → parseFieldDescriptor (F_6 k).2.2.1 = some (t_6 k) := by decide +kernel
theorem i_6 : ∀ w ∈ u_ws R_6 F_6 3, w ∈ lw_tbl := by
  have h : u_ws R_6 F_6 3 = ([83, 85, 87] : List Nat).filterMap (fun i => tables_1[i]?) := by decide +kernel
  intro w hw
  rw [h] at hw
  obtain ⟨i, -, hi⟩ := List.mem_filterMap.mp hw
  exact List.mem_append_right _ (List.mem_of_getElem? hi)
theorem ig_6 : ∀ w ∈ u_ws R_6 F_6 3, w ∈ am_tbl := by
  have h : (u_ws R_6 F_6 3).all goodWord = true := by decide +kernel
  intro w hw
  exact List.mem_filter.mpr ⟨i_6 w hw, List.all_eq_true.mp h w hw⟩
def R_7 : String := "MilkHorse$Spared"
def F_7 : u_T := fun k => match k with
  | 0 => ("MilkHorse$Spared", "many", "I", false)
  | 1 => ("MilkHorse$Spared", "first", "I", false)
  | 2 => ("MilkHorse$Spared", "second", "I", false)
  | _ => ("MilkHorse$Spared", "known", "Z", false)
def t_7 : Nat → FieldType := fun k => match k with
  | 0 => .int
  | 1 => .int
  | 2 => .int
  | _ => .boolean
theorem n_7 : ∀ a, a < 4 → ∀ b, b < 4 → a ≠ b → (F_7 a).2.1 ≠ (F_7 b).2.1 := by decide +kernel
theorem t_7_ok : ∀ k, k < 4 → parseFieldDescriptor (F_7 k).2.2.1 = some (t_7 k) := by decide +kernel
theorem i_7 : ∀ w ∈ u_ws R_7 F_7 4, w ∈ lw_tbl := by
  have h : u_ws R_7 F_7 4 = ([282, 284, 286, 288] : List Nat).filterMap (fun i => tables_1[i]?) := by decide +kernel
  intro w hw
  rw [h] at hw
  obtain ⟨i, -, hi⟩ := List.mem_filterMap.mp hw
  exact List.mem_append_right _ (List.mem_of_getElem? hi)
theorem ig_7 : ∀ w ∈ u_ws R_7 F_7 4, w ∈ am_tbl := by
  have h : (u_ws R_7 F_7 4).all goodWord = true := by decide +kernel
  intro w hw
  exact List.mem_filter.mpr ⟨i_7 w hw, List.all_eq_true.mp h w hw⟩
def R_8 : String := "MilkHorse$Text"
def F_8 : u_T := fun k => match k with
  | 0 => ("MilkHorse$Text", "bytes", "[I", true)
  | 1 => ("MilkHorse$Text", "most", "I", true)
  | 2 => ("MilkHorse$Text", "low", "I", true)
  | 3 => ("MilkHorse$Text", "high", "I", true)
  | _ => ("MilkHorse$Text", "length", "I", false)
def t_8 : Nat → FieldType := fun k => match k with
  | 0 => .array (.int)
  | 1 => .int
  | 2 => .int
  | 3 => .int
  | _ => .int
theorem n_8 : ∀ a, a < 5 → ∀ b, b < 5 → a ≠ b → (F_8 a).2.1 ≠ (F_8 b).2.1 := by decide +kernel
theorem t_8_ok : ∀ k, k < 5 → parseFieldDescriptor (F_8 k).2.2.1 = some (t_8 k) := by decide +kernel
theorem i_8 : ∀ w ∈ u_ws R_8 F_8 5, w ∈ lw_tbl := by
  have h : u_ws R_8 F_8 5 = ([37, 39, 41, 43, 45] : List Nat).filterMap (fun i => tables_1[i]?) := by decide +kernel
  intro w hw
  rw [h] at hw
  obtain ⟨i, -, hi⟩ := List.mem_filterMap.mp hw
  exact List.mem_append_right _ (List.mem_of_getElem? hi)
theorem ig_8 : ∀ w ∈ u_ws R_8 F_8 5, w ∈ am_tbl := by
  have h : (u_ws R_8 F_8 5).all goodWord = true := by decide +kernel
  intro w hw
  exact List.mem_filter.mpr ⟨i_8 w hw, List.all_eq_true.mp h w hw⟩
def R_9 : String := "MilkHorse$Walk"
def F_9 : u_T := fun k => match k with
  | 0 => ("MilkHorse$Walk", "laid", "[I", true)
  | 1 => ("MilkHorse$Walk", "standing", "[I", true)
  | 2 => ("MilkHorse$Walk", "empties", "[I", true)
  | 3 => ("MilkHorse$Walk", "trace", "[I", true)
  | 4 => ("MilkHorse$Walk", "man", "I", false)
  | 5 => ("MilkHorse$Walk", "cart", "I", false)
  | 6 => ("MilkHorse$Walk", "cartHas", "I", false)
  | 7 => ("MilkHorse$Walk", "crateFull", "I", false)
  | 8 => ("MilkHorse$Walk", "crateEmpties", "I", false)
  | 9 => ("MilkHorse$Walk", "place", "I", false)
  | 10 => ("MilkHorse$Walk", "cartWasBare", "Z", false)
  | 11 => ("MilkHorse$Walk", "dogs", "I", false)
  | 12 => ("MilkHorse$Walk", "did", "I", false)
  | 13 => ("MilkHorse$Walk", "walked", "I", false)
  | 14 => ("MilkHorse$Walk", "filled", "I", false)
  | 15 => ("MilkHorse$Walk", "broken", "I", false)
  | _ => ("MilkHorse$Walk", "brought", "I", false)
def t_9 : Nat → FieldType := fun k => match k with
  | 0 => .array (.int)
  | 1 => .array (.int)
  | 2 => .array (.int)
  | 3 => .array (.int)
  | 4 => .int
  | 5 => .int
  | 6 => .int
  | 7 => .int
  | 8 => .int
  | 9 => .int
  | 10 => .boolean
  | 11 => .int
  | 12 => .int
  | 13 => .int
  | 14 => .int
  | 15 => .int
  | _ => .int
theorem n_9 : ∀ a, a < 17 → ∀ b, b < 17 → a ≠ b → (F_9 a).2.1 ≠ (F_9 b).2.1 := by decide +kernel
theorem t_9_ok : ∀ k, k < 17 → parseFieldDescriptor (F_9 k).2.2.1 = some (t_9 k) := by decide +kernel
theorem i_9 : ∀ w ∈ u_ws R_9 F_9 17, w ∈ lw_tbl := by
  have h : u_ws R_9 F_9 17 = ([174, 176, 178, 180, 182, 184, 186, 188, 190, 192, 194, 196, 198, 200, 202, 204, 206] : List Nat).filterMap (fun i => tables_1[i]?) := by decide +kernel
  intro w hw
  rw [h] at hw
  obtain ⟨i, -, hi⟩ := List.mem_filterMap.mp hw
  exact List.mem_append_right _ (List.mem_of_getElem? hi)
theorem ig_9 : ∀ w ∈ u_ws R_9 F_9 17, w ∈ am_tbl := by
  have h : (u_ws R_9 F_9 17).all goodWord = true := by decide +kernel
  intro w hw
  exact List.mem_filter.mpr ⟨i_9 w hw, List.all_eq_true.mp h w hw⟩
def R_10 : String := "MilkHorse"
def F_10 : u_T := fun k => match k with
  | 0 => ("MilkHorse", "wantsText", "LMilkHorse$Text;", true)
  | 1 => ("MilkHorse", "emptiesText", "LMilkHorse$Text;", true)
  | 2 => ("MilkHorse", "roundText", "LMilkHorse$Text;", true)
  | 3 => ("MilkHorse", "events", "LMilkHorse$Events;", true)
  | 4 => ("MilkHorse", "sights", "LMilkHorse$Sights;", true)
  | 5 => ("MilkHorse", "told", "LMilkHorse$Plan;", true)
  | 6 => ("MilkHorse", "trial", "LMilkHorse$Plan;", true)
  | 7 => ("MilkHorse", "walk", "LMilkHorse$Walk;", true)
  | 8 => ("MilkHorse", "day", "LMilkHorse$Day;", true)
  | 9 => ("MilkHorse", "horses", "LMilkHorse$Choice;", true)
  | 10 => ("MilkHorse", "rooms", "LMilkHorse$Choice;", true)
  | 11 => ("MilkHorse", "swaps", "LMilkHorse$Choice;", true)
  | 12 => ("MilkHorse", "spared", "LMilkHorse$Spared;", true)
  | 13 => ("MilkHorse", "chances", "LMilkHorse$Chances;", true)
  | 14 => ("MilkHorse", "crowds", "[I", true)
  | 15 => ("MilkHorse", "sheets", "[LMilkHorse$Sheet;", true)
  | _ => ("MilkHorse", "finding", "I", false)
def t_10 : Nat → FieldType := fun k => match k with
  | 0 => .object "MilkHorse$Text"
  | 1 => .object "MilkHorse$Text"
  | 2 => .object "MilkHorse$Text"
  | 3 => .object "MilkHorse$Events"
  | 4 => .object "MilkHorse$Sights"
  | 5 => .object "MilkHorse$Plan"
  | 6 => .object "MilkHorse$Plan"
  | 7 => .object "MilkHorse$Walk"
  | 8 => .object "MilkHorse$Day"
  | 9 => .object "MilkHorse$Choice"
  | 10 => .object "MilkHorse$Choice"
  | 11 => .object "MilkHorse$Choice"
  | 12 => .object "MilkHorse$Spared"
  | 13 => .object "MilkHorse$Chances"
  | 14 => .array (.int)
  | 15 => .array (.object "MilkHorse$Sheet")
  | _ => .int
theorem n_10 : ∀ a, a < 17 → ∀ b, b < 17 → a ≠ b → (F_10 a).2.1 ≠ (F_10 b).2.1 := by decide +kernel
theorem t_10_ok : ∀ k, k < 17 → parseFieldDescriptor (F_10 k).2.2.1 = some (t_10 k) := by decide +kernel
theorem i_10 : ∀ w ∈ u_ws R_10 F_10 17, w ∈ lw_tbl := by
  have h : u_ws R_10 F_10 17 = ([351, 353, 355, 357, 359, 361, 363, 365, 367, 369, 371, 373, 375, 377, 379, 381, 383] : List Nat).filterMap (fun i => tables_1[i]?) := by decide +kernel
  intro w hw
  rw [h] at hw
  obtain ⟨i, -, hi⟩ := List.mem_filterMap.mp hw
  exact List.mem_append_right _ (List.mem_of_getElem? hi)
theorem ig_10 : ∀ w ∈ u_ws R_10 F_10 17, w ∈ am_tbl := by
  have h : (u_ws R_10 F_10 17).all goodWord = true := by decide +kernel
  intro w hw
  exact List.mem_filter.mpr ⟨i_10 w hw, List.all_eq_true.mp h w hw⟩
def R_11 : String := "MilkHorseModel"
def F_11 : u_T := fun k => match k with
  | 0 => ("MilkHorseModel", "typed", "[I", true)
  | 1 => ("MilkHorseModel", "texts", "[I", true)
  | 2 => ("MilkHorseModel", "wants", "[I", true)
  | 3 => ("MilkHorseModel", "empties", "[I", true)
  | 4 => ("MilkHorseModel", "rounds", "I", false)
  | 5 => ("MilkHorseModel", "roundTold", "[I", true)
  | 6 => ("MilkHorseModel", "settings", "[I", true)
  | 7 => ("MilkHorseModel", "events", "I", false)
  | 8 => ("MilkHorseModel", "eventKind", "[I", true)
  | 9 => ("MilkHorseModel", "eventAt", "[I", true)
  | 10 => ("MilkHorseModel", "eventNumber", "[I", true)
  | 11 => ("MilkHorseModel", "wantNow", "[I", true)
  | 12 => ("MilkHorseModel", "roundNow", "[I", true)
  | 13 => ("MilkHorseModel", "horseNow", "I", false)
  | 14 => ("MilkHorseModel", "roomNow", "I", false)
  | 15 => ("MilkHorseModel", "notEvents", "I", false)
  | 16 => ("MilkHorseModel", "man", "I", false)
  | 17 => ("MilkHorseModel", "cart", "I", false)
  | 18 => ("MilkHorseModel", "full", "I", false)
  | 19 => ("MilkHorseModel", "used", "I", false)
  | 20 => ("MilkHorseModel", "stock", "I", false)
  | 21 => ("MilkHorseModel", "at", "I", false)
  | 22 => ("MilkHorseModel", "isOver", "Z", false)
  | 23 => ("MilkHorseModel", "dogs", "I", false)
  | 24 => ("MilkHorseModel", "walked", "I", false)
  | 25 => ("MilkHorseModel", "filled", "I", false)
  | 26 => ("MilkHorseModel", "broken", "I", false)
  | 27 => ("MilkHorseModel", "brought", "I", false)
  | 28 => ("MilkHorseModel", "restsAt", "I", false)
  | 29 => ("MilkHorseModel", "laid", "[I", true)
  | 30 => ("MilkHorseModel", "stands", "[I", true)
  | 31 => ("MilkHorseModel", "left", "[I", true)
  | 32 => ("MilkHorseModel", "doneAt", "[I", true)
  | 33 => ("MilkHorseModel", "manAt", "[I", true)
  | 34 => ("MilkHorseModel", "cartAt", "[I", true)
  | 35 => ("MilkHorseModel", "fullAt", "[I", true)
  | 36 => ("MilkHorseModel", "usedAt", "[I", true)
  | 37 => ("MilkHorseModel", "didAt", "[I", true)
  | 38 => ("MilkHorseModel", "bestNow", "I", false)
  | 39 => ("MilkHorseModel", "fewest", "I", false)
  | 40 => ("MilkHorseModel", "nearest", "I", false)
  | 41 => ("MilkHorseModel", "planRow", "[I", true)
  | 42 => ("MilkHorseModel", "seens", "I", false)
  | 43 => ("MilkHorseModel", "seenAt", "[I", true)
  | 44 => ("MilkHorseModel", "seenDoor", "[I", true)
  | 45 => ("MilkHorseModel", "manBy", "[I", true)
  | 46 => ("MilkHorseModel", "isThere", "[Z", true)
  | 47 => ("MilkHorseModel", "forms", "[I", true)
  | 48 => ("MilkHorseModel", "sizes", "[I", true)
  | 49 => ("MilkHorseModel", "items", "[I", true)
  | 50 => ("MilkHorseModel", "moved", "[I", true)
  | _ => ("MilkHorseModel", "finding", "I", false)
def t_11 : Nat → FieldType := fun k => match k with
  | 0 => .array (.int)
  | 1 => .array (.int)
  | 2 => .array (.int)
  | 3 => .array (.int)
  | 4 => .int
  | 5 => .array (.int)
  | 6 => .array (.int)
  | 7 => .int
  | 8 => .array (.int)
  | 9 => .array (.int)
  | 10 => .array (.int)
  | 11 => .array (.int)
  | 12 => .array (.int)
  | 13 => .int
  | 14 => .int
  | 15 => .int
  | 16 => .int
  | 17 => .int
  | 18 => .int
  | 19 => .int
  | 20 => .int
  | 21 => .int
  | 22 => .boolean
  | 23 => .int
  | 24 => .int
  | 25 => .int
  | 26 => .int
  | 27 => .int
  | 28 => .int
  | 29 => .array (.int)
  | 30 => .array (.int)
  | 31 => .array (.int)
  | 32 => .array (.int)
  | 33 => .array (.int)
  | 34 => .array (.int)
  | 35 => .array (.int)
  | 36 => .array (.int)
  | 37 => .array (.int)
  | 38 => .int
  | 39 => .int
  | 40 => .int
  | 41 => .array (.int)
  | 42 => .int
  | 43 => .array (.int)
  | 44 => .array (.int)
  | 45 => .array (.int)
  | 46 => .array (.boolean)
  | 47 => .array (.int)
  | 48 => .array (.int)
  | 49 => .array (.int)
  | 50 => .array (.int)
  | _ => .int
theorem n_11 : ∀ a, a < 52 → ∀ b, b < 52 → a ≠ b → (F_11 a).2.1 ≠ (F_11 b).2.1 := by decide +kernel
theorem t_11_ok : ∀ k, k < 52 → parseFieldDescriptor (F_11 k).2.2.1 = some (t_11 k) := by decide +kernel
theorem i_11 : ∀ w ∈ u_ws R_11 F_11 52, w ∈ lw_tbl := by
  have h : u_ws R_11 F_11 52 = ([876, 878, 880, 882, 884, 886, 888, 890, 892, 894, 896, 898, 900, 902, 904, 906, 908, 910, 912, 914, 916, 918, 920, 922, 924, 926, 928, 930, 932, 934, 936, 938, 940, 942, 944, 946, 948, 950, 952, 954, 956, 958, 960, 962, 964, 966, 968, 970, 972, 974, 976, 978] : List Nat).filterMap (fun i => tables_1[i]?) := by decide +kernel
  intro w hw
  rw [h] at hw
  obtain ⟨i, -, hi⟩ := List.mem_filterMap.mp hw
  exact List.mem_append_right _ (List.mem_of_getElem? hi)
theorem ig_11 : ∀ w ∈ u_ws R_11 F_11 52, w ∈ am_tbl := by
  have h : (u_ws R_11 F_11 52).all goodWord = true := by decide +kernel
  intro w hw
  exact List.mem_filter.mpr ⟨i_11 w hw, List.all_eq_true.mp h w hw⟩
def am_cl : List vw_C := [(R_0, F_0, 3), (R_1, F_1, 5), (R_2, F_2, 7), (R_3, F_3, 4), (R_4, F_4, 8), (R_5, F_5, 4), (R_6, F_6, 3), (R_7, F_7, 4), (R_8, F_8, 5), (R_9, F_9, 17), (R_10, F_10, 17), (R_11, F_11, 52)]
end
section
def am_tags : List Nat := [10, 8, 100, 8, 100, 8, 100, 3, 100, 100, 100, 6, 100, 100, 4, 100, 100, 100, 4, 100, 100, 100, 9, 100, 100, 100, 100, 2, 100, 100, 100, 100, 1, 1, 1, 7, 0, 100, 102, 100, 103, 5, 100, 5, 100, 5, 100, 5, 100, 11, 100, 100, 100, 100, 100, 100, 100, 100, 100, 100, 100, 100, 100, 100, 100, 100, 100, 100, 100, 100, 100, 100, 100, 100, 101, 100, 100, 100, 100]
def am_lens : List Nat := [0, 0, 24, 0, 24, 0, 24, 0, 8, 8, 8, 0, 8, 8, 0, 12, 12, 24, 0, 12, 12, 24, 0, 12, 12, 12, 48, 0, 240, 1728, 12, 5, 0, 0, 0, 0, 0, 256, 9, 576, 4, 0, 60, 0, 60, 0, 60, 0, 60, 0, 3, 72, 12, 12, 24, 3, 8, 8, 8, 12, 24, 12, 12, 12, 12, 48, 48, 48, 48, 48, 2, 8, 8, 432, 4, 4, 4, 240, 60]
def am_rhos : List (List Nat) := [[1, 3, 5, 7, 11, 14, 18, 22, 27, 32, 33, 34, 35, 36, 39, 40, 0], [2, 0, 0, 0, 0], [], [4, 0, 0, 0, 0], [], [6, 0, 0, 0, 0], [], [8, 9, 10, 0], [], [], [], [12, 13, 0], [], [], [15, 16, 17, 0, 0, 0, 0, 0], [], [], [], [19, 20, 21, 0, 0, 0, 0, 0], [], [], [], [23, 24, 25, 26, 0, 0, 0, 0, 0, 0, 0, 0, 0, 0, 0, 0, 0], [], [], [], [], [28, 29, 30, 31, 0, 0, 0], [], [], [], [], [0, 0, 0, 0, 0], [0, 0, 0, 0, 0], [0, 0, 0, 0, 0], [0, 0, 0, 0], [37, 38, 0], [], [], [], [41, 43, 45, 47], [42, 0, 0, 0], [], [44, 0, 0, 0], [], [46, 0, 0, 0], [], [48, 0, 0, 0], [], [50, 51, 52, 53, 0, 54, 55, 0, 56, 57, 58, 59, 60, 0, 0, 0, 0, 0, 0, 0, 0, 0, 0, 0, 0, 0, 0, 0, 0, 61, 62, 63, 64, 65, 66, 67, 68, 69, 0, 0, 0, 70, 0, 71, 72, 73, 74, 75, 76, 77, 78, 0], [], [], [], [], [], [], [], [], [], [], [], [], [], [], [], [], [], [], [], [], [], [], [], [], [], [], [], [], []]
def am_refs : List (List Bool) := [[true, true, false], [false, false, false, false, false], [true, true, true, true, false, false, false], [true, true, true, false], [true, true, true, false, false, false, false, false], [true, false, false, false], [true, true, false], [false, false, false, false], [true, false, false, false, false], [true, true, true, true, false, false, false, false, false, false, false, false, false, false, false, false, false], [true, true, true, true, true, true, true, true, true, true, true, true, true, true, true, true, false], [true, true, true, true, false, true, true, false, true, true, true, true, true, false, false, false, false, false, false, false, false, false, false, false, false, false, false, false, false, true, true, true, true, true, true, true, true, true, false, false, false, true, false, true, true, true, true, true, true, true, true, false]]
def am_bools : List (List Bool) := [[false, false, true], [false, false, false, false, true], [false, false, false, false, false, false, true], [false, false, false, false], [false, false, false, false, false, false, false, false], [false, false, false, true], [false, false, false], [false, false, false, true], [false, false, false, false, false], [false, false, false, false, false, false, false, false, false, false, true, false, false, false, false, false, false], [false, false, false, false, false, false, false, false, false, false, false, false, false, false, false, false, false], [false, false, false, false, false, false, false, false, false, false, false, false, false, false, false, false, false, false, false, false, false, false, true, false, false, false, false, false, false, false, false, false, false, false, false, false, false, false, false, false, false, false, false, false, false, false, false, false, false, false, false, false]]
def am_nfs : List Nat := [3, 5, 7, 4, 8, 4, 3, 4, 5, 17, 17, 52]
abbrev am_D : Type := Nat → Nat → Int32
abbrev am_L : Type := Nat → Int64
abbrev am_K : Type := Option Value → am_D → am_L → Prop
abbrev am_Sp : Type := List Value → am_D → am_L → am_K → Prop
abbrev am_V : Type := List (Option Value)
abbrev am_X : Type := Nat → am_V → List Value → am_D → am_L → Prop
/-- an instruction: itself, the next pc, three numbers, an int, a long -/
abbrev am_I : Type := Instr × Nat × Nat × Nat × Nat × Int32 × Int64
def am_tag (k : Nat) : Nat := am_tags.getD k 999
def am_len (k : Nat) : Nat := am_lens.getD k 0
def am_rho (k j : Nat) : Nat := (am_rhos.getD k []).getD j 0
def am_isr (c j : Nat) : Bool := (am_refs.getD c []).getD j false
def am_isz (c j : Nat) : Bool := (am_bools.getD c []).getD j false
def am_nf (c : Nat) : Nat := am_nfs.getD c 0
def am_up (D : am_D) (k j : Nat) (v : Int32) : am_D := fun q => if q = k then upd (D k) j v else D q
def am_gl : am_V → Nat → Option Value
  | [], _ => none
  | a :: _, 0 => a
  | _ :: t, n + 1 => am_gl t n
/-- a value of one slot into a local; a long that it cuts is gone -/
def am_s1 : am_V → Nat → Value → (am_V → Prop) → Prop
  | [], _, _, _ => False
  | _ :: t, 0, v, k => k (some v :: t)
  | a :: t, n + 1, v, k => match n with
    | 0 => (match a with
      | some (.long _) => am_s1 t 0 v (fun t' => k (none :: t'))
      | some (.double _) => am_s1 t 0 v (fun t' => k (none :: t'))
      | a' => am_s1 t 0 v (fun t' => k (a' :: t')))
    | n' + 1 => am_s1 t (n' + 1) v (fun t' => k (a :: t'))
/-- a long into two locals -/
def am_s2 : am_V → Nat → Value → (am_V → Prop) → Prop
  | [], _, _, _ => False
  | _ :: t, 0, v, k => (match t with
    | [] => False
    | _ :: t' => k (some v :: none :: t'))
  | a :: t, n + 1, v, k => match n with
    | 0 => (match a with
      | some (.long _) => am_s2 t 0 v (fun t' => k (none :: t'))
      | some (.double _) => am_s2 t 0 v (fun t' => k (none :: t'))
      | a' => am_s2 t 0 v (fun t' => k (a' :: t')))
    | n' + 1 => am_s2 t (n' + 1) v (fun t' => k (a :: t'))
def am_pop : Nat → List Value → List Value → (List Value → List Value → Prop) → Prop
  | 0, st, acc, k => k acc st
  | _ + 1, [], _, _ => False
  | n + 1, v :: st, acc, k => am_pop n st (v :: acc) k
def am_w8 : List Value → Nat
  | [] => 0
  | .long _ :: t => am_w8 t + 2
  | .double _ :: t => am_w8 t + 2
  | _ :: t => am_w8 t + 1
/-- calls and ends -/
def am_sE (F : Nat → am_Sp) (K : am_K) (ins : Instr) (nx a b d : Nat) (ls : am_V) (st : List Value) (D : am_D) (L : am_L) (X : am_X) : Prop := match ins with
  | .invokevirtual _ => am_pop b st [] (fun as r => match as with
    | .ref k :: as' => (match Nat.beq (am_tag k) d with
      | true => (match Nat.ble (am_w8 r) 8 with
        | true => F a (.ref k :: as') D L (fun q D' L' => match q with
          | some v => X nx ls (v :: r) D' L'
          | none => X nx ls r D' L')
        | false => False)
      | false => False)
    | _ => False)
  | .invokestatic _ => am_pop b st [] (fun as r => match Nat.ble (am_w8 r) 8 with
    | true => F a as D L (fun q D' L' => match q with
      | some v => X nx ls (v :: r) D' L'
      | none => X nx ls r D' L')
    | false => False)
  | .ireturn => (match st with
    | [.int x] => (match b with
      | 0 => K (some (.int x)) D L
      | _ => (x = 0 ∨ x = 1) ∧ K (some (.int x)) D L)
    | _ => False)
  | .lreturn => (match st with
    | [.long x] => K (some (.long x)) D L
    | _ => False)
  | .areturn => (match st with
    | [.ref x] => K (some (.ref x)) D L
    | [.null] => K (some .null) D L
    | _ => False)
  | .return_ => (match st with
    | [] => K none D L
    | _ => False)
  | _ => False
/-- the heap -/
def am_sD (lw : Bool) (n : Nat) (F : Nat → am_Sp) (K : am_K) (ins : Instr) (nx a b d : Nat) (v : Int32) (ls : am_V) (st : List Value) (D : am_D) (L : am_L) (X : am_X) : Prop := match ins with
  | .getfield _ => (match st with
    | .ref k :: r => (match Nat.beq (am_tag k) b with
      | true => (match d with
        | 0 => X nx ls (.int (D k a) :: r) D L
        | _ => X nx ls (.ref (am_rho k a) :: r) D L)
      | false => False)
    | _ => False)
  | .putfield _ => (match st with
    | .int x :: .ref k :: r => (match Nat.beq (am_tag k) b with
      | true => (match d with
        | 0 => X nx ls r (am_up D k a x) L
        | _ => (x = 0 ∨ x = 1) ∧ X nx ls r (am_up D k a x) L)
      | false => False)
    | _ => False)
  | .iaload => (match st with
    | .int i :: .ref k :: r => (match Nat.beq (am_tag k) 100 with
      | true => vp_in i (am_len k) ∧ X nx ls (.int (D k i.toNatClampNeg) :: r) D L
      | false => (match lw with
        | true => (match Nat.beq k 79 with
          | true => vp_in i n ∧ X nx ls (.int (D 79 i.toNatClampNeg) :: r) D L
          | false => False)
        | false => False))
    | _ => False)
  | .iastore => (match st with
    | .int x :: .int i :: .ref k :: r => (match Nat.beq (am_tag k) 100 with
      | true => vp_in i (am_len k) ∧ X nx ls r (am_up D k i.toNatClampNeg x) L
      | false => False)
    | _ => False)
  | .baload => (match st with
    | .int i :: .ref k :: r => (match Nat.beq (am_tag k) 101 with
      | true => vp_in i (am_len k) ∧ X nx ls (.int (D k i.toNatClampNeg) :: r) D L
      | false => False)
    | _ => False)
  | .bastore => (match st with
    | .int x :: .int i :: .ref k :: r => (match Nat.beq (am_tag k) 101 with
      | true => (x = 0 ∨ x = 1) ∧ vp_in i (am_len k) ∧ X nx ls r (am_up D k i.toNatClampNeg x) L
      | false => False)
    | _ => False)
  | .laload => (match st with
    | .int i :: .ref k :: r => (match Nat.beq (am_tag k) 102 with
      | true => vp_in i (am_len k) ∧ X nx ls (.long (L i.toNatClampNeg) :: r) D L
      | false => False)
    | _ => False)
  | .lastore => (match st with
    | .long x :: .int i :: .ref k :: r => (match Nat.beq (am_tag k) 102 with
      | true => vp_in i (am_len k) ∧ X nx ls r D (vp_updL L i.toNatClampNeg x)
      | false => False)
    | _ => False)
  | .aaload => (match st with
    | .int i :: .ref k :: r => (match Nat.beq (am_tag k) 103 with
      | true => vp_in i (am_len k) ∧ X nx ls (.ref (am_rho k i.toNatClampNeg) :: r) D L
      | false => False)
    | _ => False)
  | .arraylength => (match st with
    | .ref k :: r => (match Nat.ble 100 (am_tag k) with
      | true => (match Nat.ble (am_tag k) 103 with
        | true => X nx ls (.int (Int32.ofNat (am_len k)) :: r) D L
        | false => (match lw with
          | true => (match Nat.beq k 79 with
            | true => X nx ls (.int (Int32.ofNat n) :: r) D L
            | false => False)
          | false => False))
      | false => False)
    | _ => False)
  | ins => am_sE F K ins nx a b d ls st D L X
/-- branches -/
def am_sC (lw : Bool) (n : Nat) (F : Nat → am_Sp) (K : am_K) (pc : Nat) (ins : Instr) (nx a b d : Nat) (v : Int32) (ls : am_V) (st : List Value) (D : am_D) (L : am_L) (X : am_X) : Prop := match ins with
  | .goto _ => X a ls st D L
  | .if_icmp cd _ => (match st with
    | .int y :: .int x :: r => (match cd with
      | .eq => (x = y → X a ls r D L) ∧ (¬ x = y → X nx ls r D L)
      | .ne => (¬ x = y → X a ls r D L) ∧ (x = y → X nx ls r D L)
      | .lt => (x < y → X a ls r D L) ∧ (¬ x < y → X nx ls r D L)
      | .ge => (y ≤ x → X a ls r D L) ∧ (¬ y ≤ x → X nx ls r D L)
      | .gt => (y < x → X a ls r D L) ∧ (¬ y < x → X nx ls r D L)
      | .le => (x ≤ y → X a ls r D L) ∧ (¬ x ≤ y → X nx ls r D L))
    | _ => False)
  | .ifCond cd _ => (match st with
    | .int x :: r => (match cd with
      | .eq => (x = 0 → X a ls r D L) ∧ (¬ x = 0 → X nx ls r D L)
      | .ne => (¬ x = 0 → X a ls r D L) ∧ (x = 0 → X nx ls r D L)
      | .lt => (x < 0 → X a ls r D L) ∧ (¬ x < 0 → X nx ls r D L)
      | .ge => (0 ≤ x → X a ls r D L) ∧ (¬ 0 ≤ x → X nx ls r D L)
      | .gt => (0 < x → X a ls r D L) ∧ (¬ 0 < x → X nx ls r D L)
      | .le => (x ≤ 0 → X a ls r D L) ∧ (¬ x ≤ 0 → X nx ls r D L))
    | _ => False)
  | .ifnull _ => (match st with
    | .ref _ :: r => X nx ls r D L
    | .null :: r => X a ls r D L
    | _ => False)
  | .ifnonnull _ => (match st with
    | .ref _ :: r => X a ls r D L
    | .null :: r => X nx ls r D L
    | _ => False)
  | .tableswitch _ lo hi offs => (match st with
    | .int x :: r => (∀ (i : Nat) (o : Int), offs[i]? = some o → x.toInt = lo + i → X ((pc : Int) + o).toNat ls r D L) ∧ (x.toInt < lo ∨ hi < x.toInt → X a ls r D L)
    | _ => False)
  | ins => am_sD lw n F K ins nx a b d v ls st D L X
/-- arithmetic -/
def am_sB (lw : Bool) (n : Nat) (F : Nat → am_Sp) (K : am_K) (pc : Nat) (ins : Instr) (nx a b d : Nat) (v : Int32) (ls : am_V) (st : List Value) (D : am_D) (L : am_L) (X : am_X) : Prop := match ins with
  | .iadd => (match st with
    | .int y :: .int x :: r => X nx ls (.int (x + y) :: r) D L
    | _ => False)
  | .isub => (match st with
    | .int y :: .int x :: r => X nx ls (.int (x - y) :: r) D L
    | _ => False)
  | .imul => (match st with
    | .int y :: .int x :: r => X nx ls (.int (x * y) :: r) D L
    | _ => False)
  | .iand => (match st with
    | .int y :: .int x :: r => X nx ls (.int (x &&& y) :: r) D L
    | _ => False)
  | .ior => (match st with
    | .int y :: .int x :: r => X nx ls (.int (x ||| y) :: r) D L
    | _ => False)
  | .ixor => (match st with
    | .int y :: .int x :: r => X nx ls (.int (x ^^^ y) :: r) D L
    | _ => False)
  | .ishl => (match st with
    | .int y :: .int x :: r => X nx ls (.int (x <<< (y &&& 31)) :: r) D L
    | _ => False)
  | .ishr => (match st with
    | .int y :: .int x :: r => X nx ls (.int (x >>> (y &&& 31)) :: r) D L
    | _ => False)
  | .iushr => (match st with
    | .int y :: .int x :: r => X nx ls (.int ((x.toUInt32 >>> (y.toUInt32 &&& Int32.toUInt32 31)).toInt32) :: r) D L
    | _ => False)
  | .idiv => (match st with
    | .int y :: .int x :: r => ¬ y = 0 ∧ X nx ls (.int (x / y) :: r) D L
    | _ => False)
  | .irem => (match st with
    | .int y :: .int x :: r => ¬ y = 0 ∧ X nx ls (.int (x - x / y * y) :: r) D L
    | _ => False)
  | .ineg => (match st with
    | .int x :: r => X nx ls (.int (-x) :: r) D L
    | _ => False)
  | .ladd => (match st with
    | .long y :: .long x :: r => X nx ls (.long (x + y) :: r) D L
    | _ => False)
  | .lsub => (match st with
    | .long y :: .long x :: r => X nx ls (.long (x - y) :: r) D L
    | _ => False)
  | .lmul => (match st with
    | .long y :: .long x :: r => X nx ls (.long (x * y) :: r) D L
    | _ => False)
  | .ldiv => (match st with
    | .long y :: .long x :: r => ¬ y = 0 ∧ X nx ls (.long (x / y) :: r) D L
    | _ => False)
  | .lrem => (match st with
    | .long y :: .long x :: r => ¬ y = 0 ∧ X nx ls (.long (x - x / y * y) :: r) D L
    | _ => False)
  | .lshl => (match st with
    | .int y :: .long x :: r => X nx ls (.long (x <<< (y.toInt64 &&& 63)) :: r) D L
    | _ => False)
  | .lcmp => (match st with
    | .long y :: .long x :: r => X nx ls (.int (lg_cmp x y) :: r) D L
    | _ => False)
  | .i2l => (match st with
    | .int x :: r => X nx ls (.long x.toInt64 :: r) D L
    | _ => False)
  | .i2b => (match st with
    | .int x :: r => X nx ls (.int x.toInt8.toInt32 :: r) D L
    | _ => False)
  | .i2s => (match st with
    | .int x :: r => X nx ls (.int x.toInt16.toInt32 :: r) D L
    | _ => False)
  | ins => am_sC lw n F K pc ins nx a b d v ls st D L X
/-- constants, locals, the stack -/
def am_sA (lw : Bool) (n : Nat) (F : Nat → am_Sp) (K : am_K) (pc : Nat) (ins : Instr) (nx a b d : Nat) (v : Int32) (w : Int64) (ls : am_V) (st : List Value) (D : am_D) (L : am_L) (X : am_X) : Prop := match ins with
  | .iconst _ => X nx ls (.int v :: st) D L
  | .bipush _ => X nx ls (.int v :: st) D L
  | .sipush _ => X nx ls (.int v :: st) D L
  | .ldc _ => X nx ls (.int v :: st) D L
  | .ldc_w _ => X nx ls (.int v :: st) D L
  | .lconst _ => X nx ls (.long w :: st) D L
  | .ldc2_w _ => X nx ls (.long w :: st) D L
  | .aconst_null => X nx ls (.null :: st) D L
  | .iload _ => (match am_gl ls a with
    | some (.int x) => X nx ls (.int x :: st) D L
    | _ => False)
  | .iload_n _ => (match am_gl ls a with
    | some (.int x) => X nx ls (.int x :: st) D L
    | _ => False)
  | .lload _ => (match am_gl ls a with
    | some (.long x) => X nx ls (.long x :: st) D L
    | _ => False)
  | .lload_n _ => (match am_gl ls a with
    | some (.long x) => X nx ls (.long x :: st) D L
    | _ => False)
  | .aload _ => (match am_gl ls a with
    | some (.ref x) => X nx ls (.ref x :: st) D L
    | some .null => X nx ls (.null :: st) D L
    | _ => False)
  | .aload_n _ => (match am_gl ls a with
    | some (.ref x) => X nx ls (.ref x :: st) D L
    | some .null => X nx ls (.null :: st) D L
    | _ => False)
  | .istore _ => (match st with
    | .int x :: r => am_s1 ls a (.int x) (fun ls' => X nx ls' r D L)
    | _ => False)
  | .istore_n _ => (match st with
    | .int x :: r => am_s1 ls a (.int x) (fun ls' => X nx ls' r D L)
    | _ => False)
  | .lstore _ => (match st with
    | .long x :: r => am_s2 ls a (.long x) (fun ls' => X nx ls' r D L)
    | _ => False)
  | .lstore_n _ => (match st with
    | .long x :: r => am_s2 ls a (.long x) (fun ls' => X nx ls' r D L)
    | _ => False)
  | .astore _ => (match st with
    | .ref x :: r => am_s1 ls a (.ref x) (fun ls' => X nx ls' r D L)
    | .null :: r => am_s1 ls a .null (fun ls' => X nx ls' r D L)
    | _ => False)
  | .astore_n _ => (match st with
    | .ref x :: r => am_s1 ls a (.ref x) (fun ls' => X nx ls' r D L)
    | .null :: r => am_s1 ls a .null (fun ls' => X nx ls' r D L)
    | _ => False)
  | .iinc _ _ => (match am_gl ls a with
    | some (.int x) => am_s1 ls a (.int (x + v)) (fun ls' => X nx ls' st D L)
    | _ => False)
  | .dup => (match st with
    | .int x :: r => X nx ls (.int x :: .int x :: r) D L
    | .ref x :: r => X nx ls (.ref x :: .ref x :: r) D L
    | _ => False)
  | .dup2 => (match st with
    | .int x :: .ref y :: r => X nx ls (.int x :: .ref y :: .int x :: .ref y :: r) D L
    | _ => False)
  | .pop => (match st with
    | .int _ :: r => X nx ls r D L
    | _ => False)
  | ins => am_sB lw n F K pc ins nx a b d v ls st D L X
def am_st (lw : Bool) (n : Nat) (C : Nat → Option am_I) (F : Nat → am_Sp) (K : am_K) (pc : Nat) (ls : am_V) (st : List Value) (D : am_D) (L : am_L) (X : am_X) : Prop := match C pc with
  | some (ins, nx, a, b, d, v, w) => am_sA lw n F K pc ins nx a b d v w ls st D L X
  | none => False
/-- it comes to an end, and K holds there -/
def am_Wp (lw : Bool) (n : Nat) (C : Nat → Option am_I) (F : Nat → am_Sp) (K : am_K) : am_X := fun pc ls st D L =>
  ∀ X : am_X, (∀ pc ls st D L, am_st lw n C F K pc ls st D L X → X pc ls st D L) → X pc ls st D L
/-- up to k steps, or to one of the places hs -/
def am_bl (lw : Bool) (n : Nat) (C : Nat → Option am_I) (F : Nat → am_Sp) (K : am_K) (X : am_X) (hs : List Nat) : Nat → am_X
  | 0 => X
  | k + 1 => fun pc ls st D L => am_st lw n C F K pc ls st D L (fun pc' ls' st' D' L' => match hs.elem pc' with
    | true => X pc' ls' st' D' L'
    | false => am_bl lw n C F K X hs k pc' ls' st' D' L')
end
section
/-! the abstract machine's rules: monotone, unfolding, blocks -/
def am_mono (S : am_Sp) : Prop := ∀ (as : List Value) (D : am_D) (L : am_L) (K K' : am_K), (∀ r D L, K r D L → K' r D L) → S as D L K → S as D L K'
theorem am_s1_ex : ∀ (ls : am_V) (i : Nat) (v : Value) (k : am_V → Prop), am_s1 ls i v k → ∃ ls' : am_V, k ls' ∧ (∀ k' : am_V → Prop, k' ls' → am_s1 ls i v k') ∧ ∀ (j : Nat) (v' : Value), am_gl ls' j = some v' → (j = i ∧ v' = v) ∨ (j ≠ i ∧ am_gl ls j = some v' ∧ ¬ (j + 1 = i ∧ v'.category = 2))
  | [], _, _, _, h => absurd h id
  | b :: t, 0, v, k, h => by
    simp only [am_s1] at h
    refine ⟨_, h, fun k' h' => by simpa only [am_s1] using h', fun j v' hj => ?_⟩
    cases j with
    | zero => simp only [am_gl, Option.some.injEq] at hj; exact Or.inl ⟨rfl, hj.symm⟩
    | succ j => exact Or.inr ⟨by omega, hj, by omega⟩
  | a :: t, 0 + 1, v, k, h => by
    simp only [am_s1] at h
    split at h
    · rename_i x
      obtain ⟨l, h1, h2, h3⟩ := am_s1_ex t 0 v _ h
      refine ⟨_, h1, fun k' h' => by simp only [am_s1]; exact h2 _ h', fun j v' hj => ?_⟩
      cases j with
      | zero => simp [am_gl] at hj
      | succ j =>
        rcases h3 j v' hj with ⟨q1, q2⟩ | ⟨q1, q2, q3⟩
        · exact Or.inl ⟨by omega, q2⟩
        · exact Or.inr ⟨by omega, q2, by omega⟩
    · rename_i x
      obtain ⟨l, h1, h2, h3⟩ := am_s1_ex t 0 v _ h
      refine ⟨_, h1, fun k' h' => by simp only [am_s1]; exact h2 _ h', fun j v' hj => ?_⟩
      cases j with
      | zero => simp [am_gl] at hj
      | succ j =>
        rcases h3 j v' hj with ⟨q1, q2⟩ | ⟨q1, q2, q3⟩
        · exact Or.inl ⟨by omega, q2⟩
        · exact Or.inr ⟨by omega, q2, by omega⟩
    · rename_i n1 n2
      obtain ⟨l, h1, h2, h3⟩ := am_s1_ex t 0 v _ h
      refine ⟨_, h1, fun k' h' => ?_, fun j v' hj => ?_⟩
      · simp only [am_s1]
        exact h2 _ h'
      · cases j with
        | zero =>
          simp only [am_gl] at hj
          refine Or.inr ⟨by omega, hj, fun q => ?_⟩
          subst hj
          cases v' <;> simp_all [Value.category]
        | succ j =>
          rcases h3 j v' hj with ⟨q1, q2⟩ | ⟨q1, q2, q3⟩
          · exact Or.inl ⟨by omega, q2⟩
          · exact Or.inr ⟨by omega, q2, by omega⟩
  | a :: t, (n + 1) + 1, v, k, h => by
    simp only [am_s1] at h
    obtain ⟨l, h1, h2, h3⟩ := am_s1_ex t (n + 1) v _ h
    refine ⟨_, h1, fun k' h' => by simp only [am_s1]; exact h2 _ h', fun j v' hj => ?_⟩
    cases j with
    | zero => simp only [am_gl] at hj; exact Or.inr ⟨by omega, hj, by omega⟩
    | succ j =>
      rcases h3 j v' hj with ⟨q1, q2⟩ | ⟨q1, q2, q3⟩
      · exact Or.inl ⟨by omega, q2⟩
      · exact Or.inr ⟨by omega, q2, by omega⟩
theorem am_s2_ex : ∀ (ls : am_V) (i : Nat) (v : Value) (k : am_V → Prop), am_s2 ls i v k → ∃ ls' : am_V, k ls' ∧ (∀ k' : am_V → Prop, k' ls' → am_s2 ls i v k') ∧ ∀ (j : Nat) (v' : Value), am_gl ls' j = some v' → (j = i ∧ v' = v) ∨ (j ≠ i ∧ j ≠ i + 1 ∧ am_gl ls j = some v' ∧ ¬ (j + 1 = i ∧ v'.category = 2))
  | [], _, _, _, h => absurd h id
  | b :: [], 0, v, k, h => absurd h id
  | b :: b2 :: t, 0, v, k, h => by
    simp only [am_s2] at h
    refine ⟨_, h, fun k' h' => by simpa only [am_s2] using h', fun j v' hj => ?_⟩
    match j, hj with
    | 0, hj => simp only [am_gl, Option.some.injEq] at hj; exact Or.inl ⟨rfl, hj.symm⟩
    | 1, hj => simp [am_gl] at hj
    | j + 2, hj => exact Or.inr ⟨by omega, by omega, hj, by omega⟩
  | a :: t, 0 + 1, v, k, h => by
    simp only [am_s2] at h
    split at h
    · rename_i x
      obtain ⟨l, h1, h2, h3⟩ := am_s2_ex t 0 v _ h
      refine ⟨_, h1, fun k' h' => by simp only [am_s2]; exact h2 _ h', fun j v' hj => ?_⟩
      cases j with
      | zero => simp [am_gl] at hj
      | succ j =>
        rcases h3 j v' hj with ⟨q1, q2⟩ | ⟨q1, q1', q2, q3⟩
        · exact Or.inl ⟨by omega, q2⟩
        · exact Or.inr ⟨by omega, by omega, q2, by omega⟩
    · rename_i x
      obtain ⟨l, h1, h2, h3⟩ := am_s2_ex t 0 v _ h
      refine ⟨_, h1, fun k' h' => by simp only [am_s2]; exact h2 _ h', fun j v' hj => ?_⟩
      cases j with
      | zero => simp [am_gl] at hj
      | succ j =>
        rcases h3 j v' hj with ⟨q1, q2⟩ | ⟨q1, q1', q2, q3⟩
        · exact Or.inl ⟨by omega, q2⟩
        · exact Or.inr ⟨by omega, by omega, q2, by omega⟩
    · rename_i n1 n2
      obtain ⟨l, h1, h2, h3⟩ := am_s2_ex t 0 v _ h
      refine ⟨_, h1, fun k' h' => ?_, fun j v' hj => ?_⟩
      · simp only [am_s2]
        exact h2 _ h'
      · cases j with
        | zero =>
          simp only [am_gl] at hj
          refine Or.inr ⟨by omega, by omega, hj, fun q => ?_⟩
          subst hj
          cases v' <;> simp_all [Value.category]
        | succ j =>
          rcases h3 j v' hj with ⟨q1, q2⟩ | ⟨q1, q1', q2, q3⟩
          · exact Or.inl ⟨by omega, q2⟩
          · exact Or.inr ⟨by omega, by omega, q2, by omega⟩
  | a :: t, (n + 1) + 1, v, k, h => by
    simp only [am_s2] at h
    obtain ⟨l, h1, h2, h3⟩ := am_s2_ex t (n + 1) v _ h
    refine ⟨_, h1, fun k' h' => by simp only [am_s2]; exact h2 _ h', fun j v' hj => ?_⟩
    cases j with
    | zero => simp only [am_gl] at hj; exact Or.inr ⟨by omega, by omega, hj, by omega⟩
    | succ j =>
      rcases h3 j v' hj with ⟨q1, q2⟩ | ⟨q1, q1', q2, q3⟩
      · exact Or.inl ⟨by omega, q2⟩
      · exact Or.inr ⟨by omega, by omega, q2, by omega⟩
theorem am_s1_mono {ls : am_V} {i : Nat} {v : Value} {k k' : am_V → Prop} (hk : ∀ l, k l → k' l) (h : am_s1 ls i v k) : am_s1 ls i v k' := by
  obtain ⟨l, h1, h2, -⟩ := am_s1_ex ls i v k h
  exact h2 _ (hk _ h1)
theorem am_s2_mono {ls : am_V} {i : Nat} {v : Value} {k k' : am_V → Prop} (hk : ∀ l, k l → k' l) (h : am_s2 ls i v k) : am_s2 ls i v k' := by
  obtain ⟨l, h1, h2, -⟩ := am_s2_ex ls i v k h
  exact h2 _ (hk _ h1)
theorem am_pop_ex : ∀ (b : Nat) (st acc : List Value) (k : List Value → List Value → Prop), am_pop b st acc k → ∃ as r, k (as ++ acc) r ∧ st = as.reverse ++ r ∧ as.length = b ∧ ∀ k' : List Value → List Value → Prop, k' (as ++ acc) r → am_pop b st acc k'
  | 0, st, acc, k, h => ⟨[], st, h, rfl, rfl, fun _ h' => h'⟩
  | n + 1, [], acc, k, h => absurd h id
  | n + 1, v :: st, acc, k, h => by
    obtain ⟨as, r, h1, h2, h3, h4⟩ := am_pop_ex n st (v :: acc) k h
    refine ⟨as ++ [v], r, by simpa using h1, by simp [h2], by simp [h3], fun k' h' => h4 _ (by simpa using h')⟩
section MO
variable {lw : Bool} {n : Nat} {F : Nat → am_Sp} {K K' : am_K} {pc : Nat} {ins : Instr} {nx a b d : Nat} {v : Int32} {w : Int64} {ls : am_V} {st : List Value} {D : am_D} {L : am_L} {X X' : am_X}
theorem am_sE_mono (hF : ∀ a, am_mono (F a)) (hK : ∀ r D L, K r D L → K' r D L) (hX : ∀ pc ls st D L, X pc ls st D L → X' pc ls st D L) (h : am_sE F K ins nx a b d ls st D L X) : am_sE F K' ins nx a b d ls st D L X' := by
  unfold am_sE at h ⊢
  split at h
  · obtain ⟨as, r, h1, -, -, h4⟩ := am_pop_ex _ _ _ _ h
    refine h4 _ ?_
    split at h1
    · rename_i k as' e
      split at h1
      · split at h1
        · refine hF _ _ _ _ _ _ (fun r D L hq => ?_) h1
          cases r with
          | none => exact hX _ _ _ _ _ hq
          | some v => exact hX _ _ _ _ _ hq
        · exact h1
      · exact h1
    · exact absurd h1 id
  · obtain ⟨as, r, h1, -, -, h4⟩ := am_pop_ex _ _ _ _ h
    refine h4 _ ?_
    split at h1
    · refine hF _ _ _ _ _ _ (fun r D L hq => ?_) h1
      cases r with
      | none => exact hX _ _ _ _ _ hq
      | some v => exact hX _ _ _ _ _ hq
    · exact h1
  · split at h
    · split at h
      · exact hK _ _ _ h
      · exact ⟨h.1, hK _ _ _ h.2⟩
    · exact absurd h id
  · split at h
    · exact hK _ _ _ h
    · exact absurd h id
  · split at h
    · exact hK _ _ _ h
    · exact hK _ _ _ h
    · exact absurd h id
  · split at h
    · exact hK _ _ _ h
    · exact absurd h id
  · exact absurd h id
theorem am_sD_mono (hF : ∀ a, am_mono (F a)) (hK : ∀ r D L, K r D L → K' r D L) (hX : ∀ pc ls st D L, X pc ls st D L → X' pc ls st D L) (h : am_sD lw n F K ins nx a b d v ls st D L X) : am_sD lw n F K' ins nx a b d v ls st D L X' := by
  unfold am_sD at h ⊢
  split at h
  all_goals first
    | exact am_sE_mono hF hK hX h
    | (repeat' split at h
       all_goals first
         | exact absurd h id
         | exact hX _ _ _ _ _ h
         | exact ⟨h.1, hX _ _ _ _ _ h.2⟩
         | exact ⟨h.1, h.2.1, hX _ _ _ _ _ h.2.2⟩)
theorem am_sC_mono (hF : ∀ a, am_mono (F a)) (hK : ∀ r D L, K r D L → K' r D L) (hX : ∀ pc ls st D L, X pc ls st D L → X' pc ls st D L) (h : am_sC lw n F K pc ins nx a b d v ls st D L X) : am_sC lw n F K' pc ins nx a b d v ls st D L X' := by
  unfold am_sC at h ⊢
  split at h
  all_goals first
    | exact am_sD_mono hF hK hX h
    | (repeat' split at h
       all_goals first
         | exact absurd h id
         | exact hX _ _ _ _ _ h
         | exact ⟨fun q => hX _ _ _ _ _ (h.1 q), fun q => hX _ _ _ _ _ (h.2 q)⟩
         | exact ⟨fun i o q1 q2 => hX _ _ _ _ _ (h.1 i o q1 q2), fun q => hX _ _ _ _ _ (h.2 q)⟩)
theorem am_sB_mono (hF : ∀ a, am_mono (F a)) (hK : ∀ r D L, K r D L → K' r D L) (hX : ∀ pc ls st D L, X pc ls st D L → X' pc ls st D L) (h : am_sB lw n F K pc ins nx a b d v ls st D L X) : am_sB lw n F K' pc ins nx a b d v ls st D L X' := by
  unfold am_sB at h ⊢
  split at h
  all_goals first
    | exact am_sC_mono hF hK hX h
    | (repeat' split at h
       all_goals first
         | exact absurd h id
         | exact hX _ _ _ _ _ h
         | exact ⟨h.1, hX _ _ _ _ _ h.2⟩)
theorem am_sA_mono (hF : ∀ a, am_mono (F a)) (hK : ∀ r D L, K r D L → K' r D L) (hX : ∀ pc ls st D L, X pc ls st D L → X' pc ls st D L) (h : am_sA lw n F K pc ins nx a b d v w ls st D L X) : am_sA lw n F K' pc ins nx a b d v w ls st D L X' := by
  unfold am_sA at h ⊢
  split at h
  all_goals first
    | exact hX _ _ _ _ _ h
    | exact am_sB_mono hF hK hX h
    | (repeat' split at h
       all_goals first
         | exact absurd h id
         | exact hX _ _ _ _ _ h
         | exact am_s1_mono (fun l hl => hX _ _ _ _ _ hl) h
         | exact am_s2_mono (fun l hl => hX _ _ _ _ _ hl) h)
theorem am_st_mono {C : Nat → Option am_I} (hF : ∀ a, am_mono (F a)) (hK : ∀ r D L, K r D L → K' r D L) (hX : ∀ pc ls st D L, X pc ls st D L → X' pc ls st D L) (h : am_st lw n C F K pc ls st D L X) : am_st lw n C F K' pc ls st D L X' := by
  unfold am_st at h ⊢
  split at h
  · exact am_sA_mono hF hK hX h
  · exact absurd h id
theorem am_Wp_st {C : Nat → Option am_I} (hF : ∀ a, am_mono (F a)) (h : am_st lw n C F K pc ls st D L (am_Wp lw n C F K)) : am_Wp lw n C F K pc ls st D L := fun X hX => hX _ _ _ _ _ (am_st_mono hF (fun _ _ _ h => h) (fun _ _ _ _ _ h' => h' X hX) h)
theorem am_Wp_bl {C : Nat → Option am_I} (hF : ∀ a, am_mono (F a)) (hs : List Nat) : ∀ (k pc : Nat) (ls : am_V) (st : List Value) (D : am_D) (L : am_L), am_bl lw n C F K (am_Wp lw n C F K) hs k pc ls st D L → am_Wp lw n C F K pc ls st D L
  | 0, _, _, _, _, _, h => h
  | k + 1, pc, ls, st, D, L, h => by
    refine am_Wp_st hF (am_st_mono hF (fun _ _ _ h => h) (fun pc' ls' st' D' L' h' => ?_) h)
    split at h'
    · exact h'
    · exact am_Wp_bl hF hs k _ _ _ _ _ h'
theorem am_Wp_mono {C : Nat → Option am_I} (hF : ∀ a, am_mono (F a)) (hK : ∀ r D L, K r D L → K' r D L) (h : am_Wp lw n C F K pc ls st D L) : am_Wp lw n C F K' pc ls st D L := fun X hX => h X (fun _ _ _ _ _ h' => hX _ _ _ _ _ (am_st_mono hF hK (fun _ _ _ _ _ q => q) h'))
theorem am_bl_mono {C : Nat → Option am_I} (hF : ∀ a, am_mono (F a)) (hK : ∀ r D L, K r D L → K' r D L) (hX : ∀ pc ls st D L, X pc ls st D L → X' pc ls st D L) (hs : List Nat) : ∀ (k pc : Nat) (ls : am_V) (st : List Value) (D : am_D) (L : am_L), am_bl lw n C F K X hs k pc ls st D L → am_bl lw n C F K' X' hs k pc ls st D L
  | 0, _, _, _, _, _, h => hX _ _ _ _ _ h
  | k + 1, pc, ls, st, D, L, h => by
    refine am_st_mono hF hK (fun pc' ls' st' D' L' h' => ?_) h
    split at h'
    · exact hX _ _ _ _ _ h'
    · exact am_bl_mono hF hK hX hs k _ _ _ _ _ h'
/-- a method whose spec is its own code, up to k steps -/
def am_in (C : Nat → Option am_I) (F : Nat → am_Sp) (k : Nat) (lo : List Value → am_V) : am_Sp := fun as D L K => am_bl false 0 C F K (fun _ _ _ _ _ => False) [] k 0 (lo as) [] D L
theorem am_in_mono {C : Nat → Option am_I} (hF : ∀ a, am_mono (F a)) (k : Nat) (lo : List Value → am_V) : am_mono (am_in C F k lo) := fun _ _ _ _ _ hK h => am_bl_mono hF hK (fun _ _ _ _ _ h => h) [] _ _ _ _ _ _ h
theorem am_in_Wp {C : Nat → Option am_I} (hF : ∀ a, am_mono (F a)) {k : Nat} {lo : List Value → am_V} {as : List Value} (h : am_in C F k lo as D L K) : am_Wp false 0 C F K 0 (lo as) [] D L := am_Wp_bl hF [] k _ _ _ _ _ (am_bl_mono hF (fun _ _ _ h => h) (fun _ _ _ _ _ h => absurd h id) [] _ _ _ _ _ _ h)
end MO
end
section
/-! the abstract machine is the machine: the world, and every step -/
def am_c (ad : Nat → Nat) : Value → Value
  | .ref k => .ref (ad k)
  | v => v
def am_fs (ad : Nat → Nat) (f : Nat → Int32) (k : Nat) : List Value := (List.range (am_nf (am_tag k))).map (fun j => bif am_isr (am_tag k) j then Value.ref (ad (am_rho k j)) else .int (f j))
def am_e (ad : Nat → Nat) (cA : Nat → ClassId) (f : Nat → Int32) (L : am_L) (k : Nat) : va_E :=
  if am_tag k = 100 then .inl (cA 0, am_len k, .inl f)
  else if am_tag k = 101 then .inl (cA 1, am_len k, .inl f)
  else if am_tag k = 102 then .inl (cA 2, am_len k, .inr (.inl L))
  else if am_tag k = 103 then .inl (cA 3, am_len k, .inr (.inr (.inr (.inr (fun i => some (ad (am_rho k i)))))))
  else .inr (am_tag k, am_fs ad f k)
def am_w (ad : Nat → Nat) (cA : Nat → ClassId) (D : am_D) (L : am_L) : va_W := (List.range 79).map (fun k => (ad k, am_e ad cA (D k) L k))
def am_tys (cA : Nat → ClassId) : List (ClassId × FieldType) := [(cA 0, .int), (cA 1, .boolean), (cA 2, .long), (cA 3, .object "MilkHorse$Sheet")]
def am_A (ad : Nat → Nat) : Nat → Prop := fun q => ∃ k, k < 79 ∧ q = ad k
def am_inj (ad : Nat → Nat) : Prop := ∀ i j, i < 79 → j < 79 → ad i = ad j → i = j
def am_R (ad : Nat → Nat) (dC : Nat → ClassId) (dI : Nat → Nat → Nat) (cA : Nat → ClassId) (n : Nat) (xs : Nat → Int32) (D : am_D) (L : am_L) (H : Heap) : Prop := va_P (dC, dI) am_cl (am_w ad cA D L) H ∧ ∀ j, j < n → D 79 j = xs j
theorem am_w_get {ad : Nat → Nat} {cA : Nat → ClassId} {D : am_D} {L : am_L} {k : Nat} (h : k < 79) : (am_w ad cA D L)[k]? = some (ad k, am_e ad cA (D k) L k) := by
  simp [am_w, h]
theorem am_w_at {ad : Nat → Nat} {cA : Nat → ClassId} {D : am_D} {L : am_L} {k : Nat} {q : Nat × va_E} (h : (am_w ad cA D L)[k]? = some q) : k < 79 ∧ q = (ad k, am_e ad cA (D k) L k) := by
  have hk : k < 79 := by
    have := (List.getElem?_eq_some_iff.mp h).1
    simpa [am_w] using this
  rw [am_w_get hk] at h
  exact ⟨hk, (Option.some.inj h).symm⟩
theorem am_w_set {ad : Nat → Nat} {cA : Nat → ClassId} {D D' : am_D} {L L' : am_L} {k : Nat} {e : va_E} (he : e = am_e ad cA (D' k) L' k) (ho : ∀ q, q < 79 → q ≠ k → am_e ad cA (D q) L q = am_e ad cA (D' q) L' q) : (am_w ad cA D L).set k (ad k, e) = am_w ad cA D' L' := by
  apply List.ext_getElem?
  intro i
  by_cases hi : i < 79
  · rw [am_w_get hi, List.getElem?_set]
    by_cases hik : k = i
    · subst hik
      simp [am_w, hi, he]
    · rw [if_neg hik, am_w_get hi, ho i hi (fun q => hik q.symm)]
  · rw [List.getElem?_eq_none (by simp [am_w]; omega), List.getElem?_eq_none (by simp [am_w]; omega)]
theorem am_w_D {ad : Nat → Nat} {cA : Nat → ClassId} {D : am_D} {L : am_L} (hi : am_inj ad) : va_D (am_A ad) (am_w ad cA D L) := by
  refine ⟨fun i j p q h1 h2 h3 => ?_, fun k q h => ?_⟩
  · obtain ⟨a1, rfl⟩ := am_w_at h1
    obtain ⟨a2, rfl⟩ := am_w_at h2
    exact hi i j a1 a2 h3
  · obtain ⟨a1, rfl⟩ := am_w_at h
    exact ⟨k, a1, rfl⟩
theorem am_tag_lt {k : Nat} (h : am_tag k ≠ 999) : k < 79 := by
  rcases Nat.lt_or_ge k 79 with q | q
  · exact q
  · refine absurd ?_ h
    unfold am_tag
    rw [List.getD_eq_getElem?_getD, List.getElem?_eq_none (by simpa [am_tags] using q)]
    rfl
theorem am_up_ne {D : am_D} {k j q : Nat} {v : Int32} (h : q ≠ k) : am_up D k j v q = D q := by simp [am_up, h]
theorem am_up_eq {D : am_D} {k j : Nat} {v : Int32} : am_up D k j v k = upd (D k) j v := by simp [am_up]
theorem am_fs_set {ad : Nat → Nat} {f : Nat → Int32} {k j : Nat} {v : Int32} (h : am_isr (am_tag k) j = false) : (am_fs ad f k).set j (.int v) = am_fs ad (upd f j v) k := by
  apply List.ext_getElem?
  intro i
  by_cases hi : i < am_nf (am_tag k)
  · rw [List.getElem?_set]
    by_cases hij : j = i
    · subst hij
      simp [am_fs, hi, h, upd]
    · rw [if_neg hij]
      have : ¬ i = j := fun q => hij q.symm
      simp [am_fs, hi, upd, this]
  · rw [List.getElem?_eq_none (by simp [am_fs]; omega), List.getElem?_eq_none (by simp [am_fs]; omega)]
theorem am_R_put {ad : Nat → Nat} {dC : Nat → ClassId} {dI : Nat → Nat → Nat} {cA : Nat → ClassId} {n : Nat} {xs : Nat → Int32} {D : am_D} {L : am_L} {H : Heap} {k : Nat} {e : va_E} {j : Nat} {v : Int32} (hk : k < 79) (he : e = am_e ad cA (upd (D k) j v) L k) (hx : ∀ j, j < n → D 79 j = xs j) (h : va_P (dC, dI) am_cl ((am_w ad cA D L).set k (ad k, e)) H) : am_R ad dC dI cA n xs (am_up D k j v) L H := by
  refine ⟨?_, fun i hi => by rw [am_up_ne (by omega)]; exact hx i hi⟩
  rwa [am_w_set (D' := am_up D k j v) (L' := L) (by rw [am_up_eq]; exact he) (fun q _ hq => by rw [am_up_ne hq])] at h
theorem am_e_100 {ad : Nat → Nat} {cA : Nat → ClassId} {f : Nat → Int32} {L : am_L} {k : Nat} (h : am_tag k = 100) : am_e ad cA f L k = .inl (cA 0, am_len k, .inl f) := by simp [am_e, h]
theorem am_e_101 {ad : Nat → Nat} {cA : Nat → ClassId} {f : Nat → Int32} {L : am_L} {k : Nat} (h : am_tag k = 101) : am_e ad cA f L k = .inl (cA 1, am_len k, .inl f) := by simp [am_e, h]
theorem am_e_102 {ad : Nat → Nat} {cA : Nat → ClassId} {f : Nat → Int32} {L : am_L} {k : Nat} (h : am_tag k = 102) : am_e ad cA f L k = .inl (cA 2, am_len k, .inr (.inl L)) := by simp [am_e, h]
theorem am_e_103 {ad : Nat → Nat} {cA : Nat → ClassId} {f : Nat → Int32} {L : am_L} {k : Nat} (h : am_tag k = 103) : am_e ad cA f L k = .inl (cA 3, am_len k, .inr (.inr (.inr (.inr (fun i => some (ad (am_rho k i))))))) := by simp [am_e, h]
theorem am_e_ob {ad : Nat → Nat} {cA : Nat → ClassId} {f : Nat → Int32} {L : am_L} {k : Nat} (h : am_tag k < 100) : am_e ad cA f L k = .inr (am_tag k, am_fs ad f k) := by
  unfold am_e
  rw [if_neg (by omega), if_neg (by omega), if_neg (by omega), if_neg (by omega)]
/-- the locals -/
def am_lv (ad : Nat → Nat) (ls : am_V) (rls : Array Slot) (nL : Nat) : Prop := rls.size = nL ∧ lv_wf rls ∧ ∀ (i : Nat) (v : Value), am_gl ls i = some v → rls[i]? = some (.val (am_c ad v))
def am_ents (ad : Nat → Nat) (ls : am_V) (nL : Nat) : List (Nat × Value) := (List.range nL).filterMap (fun i => (am_gl ls i).map (fun v => (i, am_c ad v)))
theorem am_lv_has {ad : Nat → Nat} {ls : am_V} {rls : Array Slot} {nL : Nat} (h : am_lv ad ls rls nL) : lv_has rls nL (am_ents ad ls nL) := by
  refine ⟨h.1, h.2.1, fun q hq => ?_⟩
  obtain ⟨i, -, hi⟩ := List.mem_filterMap.mp hq
  cases hv : am_gl ls i with
  | none => rw [hv] at hi; cases hi
  | some v =>
    rw [hv] at hi
    cases hi
    exact h.2.2 i v hv
theorem am_ents_mem {ad : Nat → Nat} {ls : am_V} {rls : Array Slot} {nL i : Nat} {v : Value} (h : am_lv ad ls rls nL) (hi : am_gl ls i = some v) : (i, am_c ad v) ∈ am_ents ad ls nL := by
  refine List.mem_filterMap.mpr ⟨i, ?_, by rw [hi]; rfl⟩
  have := h.2.2 i v hi
  rw [List.mem_range, ← h.1]
  exact lv_lt this
theorem am_c_cat (ad : Nat → Nat) (v : Value) : (am_c ad v).category = v.category := by cases v <;> rfl
theorem am_lv1 {ad : Nat → Nat} {ls ls' : am_V} {rls rls' : Array Slot} {nL i : Nat} {v : Value} (h : am_lv ad ls rls nL) (hh : lv_has rls' nL ((i, am_c ad v) :: (am_ents ad ls nL).filter (fun q => !(q.1 == i) && !(q.1 + 1 == i && q.2.category == 2))))
    (h3 : ∀ (j : Nat) (v' : Value), am_gl ls' j = some v' → (j = i ∧ v' = v) ∨ (j ≠ i ∧ am_gl ls j = some v' ∧ ¬ (j + 1 = i ∧ v'.category = 2))) : am_lv ad ls' rls' nL := by
  refine ⟨hh.1, hh.2.1, fun j v' hj => ?_⟩
  rcases h3 j v' hj with ⟨rfl, rfl⟩ | ⟨q1, q2, q3⟩
  · exact hh.2.2 (j, _) List.mem_cons_self
  · refine hh.2.2 (j, am_c ad v') (List.mem_cons_of_mem _ (List.mem_filter.mpr ⟨am_ents_mem h q2, ?_⟩))
    simp only [am_c_cat]
    simp [q1]
    by_cases z : j + 1 = i
    · exact Or.inr (fun q => q3 ⟨z, q⟩)
    · exact Or.inl z
theorem am_lv2 {ad : Nat → Nat} {ls ls' : am_V} {rls rls' : Array Slot} {nL i : Nat} {v : Value} (h : am_lv ad ls rls nL) (hh : lv_has rls' nL ((i, am_c ad v) :: (am_ents ad ls nL).filter (fun q => !(q.1 == i) && (!(q.1 == i + 1) && !(q.1 + 1 == i && q.2.category == 2)))))
    (h3 : ∀ (j : Nat) (v' : Value), am_gl ls' j = some v' → (j = i ∧ v' = v) ∨ (j ≠ i ∧ j ≠ i + 1 ∧ am_gl ls j = some v' ∧ ¬ (j + 1 = i ∧ v'.category = 2))) : am_lv ad ls' rls' nL := by
  refine ⟨hh.1, hh.2.1, fun j v' hj => ?_⟩
  rcases h3 j v' hj with ⟨rfl, rfl⟩ | ⟨q1, q1', q2, q3⟩
  · exact hh.2.2 (j, _) List.mem_cons_self
  · refine hh.2.2 (j, am_c ad v') (List.mem_cons_of_mem _ (List.mem_filter.mpr ⟨am_ents_mem h q2, ?_⟩))
    simp only [am_c_cat]
    simp [q1, q1']
    by_cases z : j + 1 = i
    · exact Or.inr (fun q => q3 ⟨z, q⟩)
    · exact Or.inl z
/-- the static side: what the decoded instruction says, and the numbers beside it -/
def am_co (ret : Option FieldType) (nL : Nat) (fl : List (Nat × Nat × Nat × Bool × Bool)) (ki : List (Nat × Int32)) (kl : List (Nat × Int64)) (cs : List (Instr × Nat × Nat)) (pc : Nat) (ins : Instr) (nx a b d : Nat) (v : Int32) (w : Int64) : Bool := match ins with
  | .iconst i => decide (nx = pc + 1) && decide (Int32.ofInt i = v)
  | .bipush i => decide (nx = pc + 2) && decide ((Int8.ofInt i).toInt32 = v)
  | .sipush i => decide (nx = pc + 3) && decide ((Int16.ofInt i).toInt32 = v)
  | .ldc i => decide (nx = pc + 2) && decide ((i, v) ∈ ki)
  | .ldc_w i => decide (nx = pc + 3) && decide ((i, v) ∈ ki)
  | .lconst i => decide (nx = pc + 1) && decide (Int64.ofNat (i : Nat) = w)
  | .ldc2_w i => decide (nx = pc + 3) && decide ((i, w) ∈ kl)
  | .iload i => decide (nx = pc + 2) && decide (i = a)
  | .iload_n i => decide (nx = pc + 1) && decide ((i : Nat) = a)
  | .lload i => decide (nx = pc + 2) && decide (i = a)
  | .lload_n i => decide (nx = pc + 1) && decide ((i : Nat) = a)
  | .aload i => decide (nx = pc + 2) && decide (i = a)
  | .aload_n i => decide (nx = pc + 1) && decide ((i : Nat) = a)
  | .istore i => decide (nx = pc + 2) && (decide (i = a) && decide (a < nL))
  | .istore_n i => decide (nx = pc + 1) && (decide ((i : Nat) = a) && decide (a < nL))
  | .lstore i => decide (nx = pc + 2) && (decide (i = a) && decide (a + 1 < nL))
  | .lstore_n i => decide (nx = pc + 1) && (decide ((i : Nat) = a) && decide (a + 1 < nL))
  | .astore i => decide (nx = pc + 2) && (decide (i = a) && decide (a < nL))
  | .astore_n i => decide (nx = pc + 1) && (decide ((i : Nat) = a) && decide (a < nL))
  | .iinc i k => decide (nx = pc + 3) && (decide (i = a) && (decide (Int32.ofInt k = v) && decide (a < nL)))
  | .goto o => decide ((pc : Int) + o = (a : Int)) && decide (nx = pc + 3)
  | .if_icmp _ o => decide ((pc : Int) + o = (a : Int)) && decide (nx = pc + 3)
  | .ifCond _ o => decide ((pc : Int) + o = (a : Int)) && decide (nx = pc + 3)
  | .ifnull o => decide ((pc : Int) + o = (a : Int)) && decide (nx = pc + 3)
  | .ifnonnull o => decide ((pc : Int) + o = (a : Int)) && decide (nx = pc + 3)
  | .tableswitch df lo hi offs => decide ((pc : Int) + df = (a : Int)) && (decide (hi - lo + 1 = offs.size) && offs.all (fun o => decide (0 ≤ (pc : Int) + o)))
  | .getfield i => decide (nx = pc + 3) && (fl.any (fun q => decide (q.1 = i) && (decide (q.2.1 = b) && decide (q.2.2.1 = a))) && (decide (b < 12) && decide (d = (if am_isr b a = true then 1 else 0))))
  | .putfield i => decide (nx = pc + 3) && (fl.any (fun q => decide (q.1 = i) && (decide (q.2.1 = b) && (decide (q.2.2.1 = a) && q.2.2.2.2))) && (decide (b < 12) && decide (d = (if am_isz b a = true then 1 else 0))))
  | .invokevirtual i => decide (nx = pc + 3) && (decide (cs[a]? = some (.invokevirtual i, b, d)) && decide (d < 12))
  | .invokestatic i => decide (nx = pc + 3) && decide (cs[a]? = some (.invokestatic i, b, d))
  | .ireturn => decide (nx = pc + 1) && ((decide (b = 0) && decide (ret = some .int)) || (decide (b = 1) && decide (ret = some .boolean)))
  | .lreturn => decide (nx = pc + 1) && decide (ret = some .long)
  | .areturn => decide (nx = pc + 1) && (match ret with
    | some (.object _) => true
    | _ => false)
  | .return_ => decide (nx = pc + 1) && decide (ret = none)
  | _ => decide (nx = pc + 1)
def am_ck (cc : ByteArray) (ret : Option FieldType) (nL : Nat) (fl : List (Nat × Nat × Nat × Bool × Bool)) (ki : List (Nat × Int32)) (kl : List (Nat × Int64)) (cs : List (Instr × Nat × Nat)) (pc : Nat) (q : Option am_I) : Bool := match q with
  | none => true
  | some (ins, nx, a, b, d, v, w) => decide (decode cc pc = .ok (ins, nx - pc)) && am_co ret nL fl ki kl cs pc ins nx a b d v w
/-- a class's own links: of fields (entry, class, place, of a nest mate, also put), of numbers -/
def am_flok (own : String) (q : Nat × Nat × Nat × Bool × Bool) : Prop := ∃ r : vw_C, am_cl[q.2.1]? = some r ∧ r.2.2 = am_nf q.2.1 ∧ q.2.2.1 < r.2.2 ∧ (r.2.1 q.2.2.1).1 = r.1 ∧
  ((q.2.2.2.1 = false ∧ Cond.fieldLink own q.1 r.1 (r.2.1 q.2.2.1).2.1 (r.2.1 q.2.2.1).2.2.1 ∈ am_tbl) ∨ (q.2.2.2.1 = true ∧ Cond.fieldLinkNest own q.1 r.1 (r.2.1 q.2.2.1).2.1 (r.2.1 q.2.2.1).2.2.1 "MilkHorse" ∈ am_nest)) ∧
  (q.2.2.2.2 = true → (r.2.1 q.2.2.1).2.2.2 = false ∧ am_isr q.2.1 q.2.2.1 = false ∧ parseFieldDescriptor (r.2.1 q.2.2.1).2.2.1 = some (if am_isz q.2.1 q.2.2.1 = true then .boolean else .int))
theorem am_cls {c : Nat} {r : vw_C} (h : am_cl[c]? = some r) : (∀ w ∈ u_ws r.1 r.2.1 r.2.2, w ∈ am_tbl) ∧ (∃ ty0 : Nat → FieldType, ∀ k, k < r.2.2 → parseFieldDescriptor (r.2.1 k).2.2.1 = some (ty0 k)) ∧ ∀ a, a < r.2.2 → ∀ b, b < r.2.2 → a ≠ b → (r.2.1 a).2.1 ≠ (r.2.1 b).2.1 := by
  match c, h with
  | 0, h => cases h; exact ⟨ig_0, ⟨t_0, t_0_ok⟩, n_0⟩
  | 1, h => cases h; exact ⟨ig_1, ⟨t_1, t_1_ok⟩, n_1⟩
  | 2, h => cases h; exact ⟨ig_2, ⟨t_2, t_2_ok⟩, n_2⟩
  | 3, h => cases h; exact ⟨ig_3, ⟨t_3, t_3_ok⟩, n_3⟩
  | 4, h => cases h; exact ⟨ig_4, ⟨t_4, t_4_ok⟩, n_4⟩
  | 5, h => cases h; exact ⟨ig_5, ⟨t_5, t_5_ok⟩, n_5⟩
  | 6, h => cases h; exact ⟨ig_6, ⟨t_6, t_6_ok⟩, n_6⟩
  | 7, h => cases h; exact ⟨ig_7, ⟨t_7, t_7_ok⟩, n_7⟩
  | 8, h => cases h; exact ⟨ig_8, ⟨t_8, t_8_ok⟩, n_8⟩
  | 9, h => cases h; exact ⟨ig_9, ⟨t_9, t_9_ok⟩, n_9⟩
  | 10, h => cases h; exact ⟨ig_10, ⟨t_10, t_10_ok⟩, n_10⟩
  | 11, h => cases h; exact ⟨ig_11, ⟨t_11, t_11_ok⟩, n_11⟩
  | c + 12, h => simp [am_cl] at h
def am_Cx (p : Program) (s : State) (m : MethodId) (args : Array Value) (c : Code) (own : String) (cc : ByteArray) (nL : Nat) (dC : Nat → ClassId) (dI : Nat → Nat → Nat) (cA : Nat → ClassId) : Prop :=
  p.tables.exec = Jvm.exec ∧ c.code = cc ∧ c.maxLocals = nL ∧ s.vm.findClass own = some m.cls ∧ (∀ w ∈ am_tbl, w.before args s = true) ∧ va_K (dC, dI) am_cl (am_tys cA) s ∧ am_N s
def am_Sd (p : Program) (l : Launch) (e : Env) (R : Room) (s : State) (m : MethodId) (args : Array Value) (below : List Frame) (meth : Method) (c : Code) (cells slots : Nat) (Q : State → Prop) (nL : Nat) (ad : Nat → Nat) (dC : Nat → ClassId) (dI : Nat → Nat → Nat) (cA : Nat → ClassId) (n : Nat) (xs : Nat → Int32) : am_X := fun pc ls st D L =>
  ∀ (rls : Array Slot) (H : Heap) (locs : List Loc), am_lv ad ls rls nL → am_R ad dC dI cA n xs D L H → va_S (am_A ad) s.heap H locs → W p l e R s m args below meth c H locs cells slots Q (F0 m pc rls (st.map (am_c ad)))
end
section
/-! every step of the abstract machine is one of the machine -/
theorem am_102 {k : Nat} (h : am_tag k = 102) : k = 38 := by
  have hk : k < 79 := am_tag_lt (by omega)
  have key : ∀ k, k < 79 → am_tag k = 102 → k = 38 := by decide +kernel
  exact key k hk h
theorem am_e_L {ad : Nat → Nat} {cA : Nat → ClassId} {f : Nat → Int32} {L L' : am_L} {k : Nat} (h : am_tag k ≠ 102) : am_e ad cA f L k = am_e ad cA f L' k := by
  simp [am_e, h]
section SO
variable {p : Program} {l : Launch} {e : Env} {R : Room} {s : State} {m : MethodId} {args : Array Value} {below : List Frame} {meth : Method} {c : Code} {cells slots : Nat} {Q : State → Prop} {nL : Nat} {ad : Nat → Nat} {dC : Nat → ClassId} {dI : Nat → Nat → Nat} {cA : Nat → ClassId} {n : Nat} {xs : Nat → Int32}
variable {lw : Bool} {F : Nat → am_Sp} {K : am_K} {pc : Nat} {ins : Instr} {nx a b d : Nat} {v : Int32} {w : Int64} {ls : am_V} {st : List Value} {D : am_D} {L : am_L}
variable {own : String} {cc : ByteArray} {ret : Option FieldType} {fl : List (Nat × Nat × Nat × Bool × Bool)} {ki : List (Nat × Int32)} {kl : List (Nat × Int64)} {cs : List (Instr × Nat × Nat)}
/-- what a call must be -/
def am_HC (p : Program) (l : Launch) (e : Env) (R : Room) (s : State) (m : MethodId) (args : Array Value) (below : List Frame) (meth : Method) (c : Code) (cells slots : Nat) (Q : State → Prop) (cc : ByteArray) (nL : Nat) (ad : Nat → Nat) (dC : Nat → ClassId) (dI : Nat → Nat → Nat) (cA : Nat → ClassId) (n : Nat) (xs : Nat → Int32) (ins : Instr) (b d : Nat) (S : am_Sp) : Prop :=
  ∀ (as : List Value) (D : am_D) (L : am_L) (K' : am_K) (H : Heap) (locs : List Loc) (pc : Nat) (rls : Array Slot) (rest : List Value), S as D L K' → as.length = b → am_w8 rest ≤ 8 → ((∃ i, ins = .invokevirtual i) → ∃ k as', as = .ref k :: as' ∧ am_tag k = d) → am_R ad dC dI cA n xs D L H → va_S (am_A ad) s.heap H locs → rls.size = nL → decode cc pc = .ok (ins, 3) →
    (∀ (r : Option Value) (D' : am_D) (L' : am_L) (H' : Heap) (locs' : List Loc), K' r D' L' → am_R ad dC dI cA n xs D' L' H' → va_S (am_A ad) s.heap H' locs' → W p l e R s m args below meth c H' locs' cells slots Q (F0 m (pc + 3) rls ((r.map (am_c ad)).toList ++ rest.map (am_c ad)))) →
    W p l e R s m args below meth c H locs cells slots Q (F0 m pc rls ((as.map (am_c ad)).reverse ++ rest.map (am_c ad)))
/-- what an end must be -/
def am_HR (p : Program) (l : Launch) (e : Env) (R : Room) (s : State) (m : MethodId) (args : Array Value) (below : List Frame) (meth : Method) (c : Code) (cells slots : Nat) (Q : State → Prop) (cc : ByteArray) (ad : Nat → Nat) (dC : Nat → ClassId) (dI : Nat → Nat → Nat) (cA : Nat → ClassId) (n : Nat) (xs : Nat → Int32) (ret : Option FieldType) (K : am_K) : Prop :=
  ∀ (r : Option Value) (D : am_D) (L : am_L) (H : Heap) (locs : List Loc) (pc : Nat) (rls : Array Slot), K r D L → am_R ad dC dI cA n xs D L H → va_S (am_A ad) s.heap H locs →
    ((decode cc pc = .ok (.ireturn, 1) ∧ ∃ x, r = some (.int x) ∧ (ret = some .int ∨ (ret = some .boolean ∧ (x = 0 ∨ x = 1)))) ∨ (decode cc pc = .ok (.lreturn, 1) ∧ ret = some .long ∧ ∃ x, r = some (.long x)) ∨ (decode cc pc = .ok (.areturn, 1) ∧ (∃ o, ret = some (.object o)) ∧ (r = some .null ∨ ∃ k, r = some (.ref k))) ∨ (decode cc pc = .ok (.return_, 1) ∧ ret = none ∧ r = none)) →
    W p l e R s m args below meth c H locs cells slots Q (F0 m pc rls ((r.map (am_c ad)).toList))
theorem am_okE (hC : ∀ (a : Nat) (ins : Instr) (b d : Nat), cs[a]? = some (ins, b, d) → am_HC p l e R s m args below meth c cells slots Q cc nL ad dC dI cA n xs ins b d (F a)) (hRt : am_HR p l e R s m args below meth c cells slots Q cc ad dC dI cA n xs ret K)
    (hdec : decode cc pc = .ok (ins, nx - pc)) (hco : am_co ret nL fl ki kl cs pc ins nx a b d v w = true) (h : am_sE F K ins nx a b d ls st D L (am_Sd p l e R s m args below meth c cells slots Q nL ad dC dI cA n xs)) : am_Sd p l e R s m args below meth c cells slots Q nL ad dC dI cA n xs pc ls st D L := by
  intro rls H locs hl hR hS
  unfold am_sE at h
  split at h
  · simp only [am_co, Bool.and_eq_true, decide_eq_true_eq] at hco
    obtain ⟨rfl, hcs, hd⟩ := hco
    rw [Nat.add_sub_cancel_left] at hdec
    obtain ⟨as, r, h1, h2, h3, -⟩ := am_pop_ex _ _ _ _ h
    rw [List.append_nil] at h1
    split at h1
    · rename_i k as'
      split at h1
      · rename_i e1
        split at h1
        · rename_i e2
          subst h2
          rw [List.map_append, List.map_reverse]
          refine hC a _ _ _ hcs _ D L _ H locs pc rls r h1 h3 (Nat.le_of_ble_eq_true e2) (fun _ => ⟨k, as', rfl, Nat.eq_of_beq_eq_true e1⟩) hR hS hl.1 hdec (fun q D' L' H' locs' hq hR' hS' => ?_)
          cases q with
          | none => exact hq rls H' locs' hl hR' hS'
          | some z => exact hq rls H' locs' hl hR' hS'
        · exact absurd h1 id
      · exact absurd h1 id
    · exact absurd h1 id
  · simp only [am_co, Bool.and_eq_true, decide_eq_true_eq] at hco
    obtain ⟨rfl, hcs⟩ := hco
    rw [Nat.add_sub_cancel_left] at hdec
    obtain ⟨as, r, h1, h2, h3, -⟩ := am_pop_ex _ _ _ _ h
    rw [List.append_nil] at h1
    split at h1
    · rename_i e2
      subst h2
      rw [List.map_append, List.map_reverse]
      refine hC a _ _ _ hcs _ D L _ H locs pc rls r h1 h3 (Nat.le_of_ble_eq_true e2) (fun q => by obtain ⟨i, hi⟩ := q; cases hi) hR hS hl.1 hdec (fun q D' L' H' locs' hq hR' hS' => ?_)
      cases q with
      | none => exact hq rls H' locs' hl hR' hS'
      | some z => exact hq rls H' locs' hl hR' hS'
    · exact absurd h1 id
  · simp only [am_co, Bool.and_eq_true, Bool.or_eq_true, decide_eq_true_eq] at hco
    obtain ⟨rfl, hco⟩ := hco
    rw [Nat.add_sub_cancel_left] at hdec
    split at h
    · rename_i x
      rcases hco with ⟨rfl, h2⟩ | ⟨rfl, h2⟩
      · exact hRt (some (.int x)) D L H locs pc rls h hR hS (Or.inl ⟨hdec, x, rfl, Or.inl h2⟩)
      · exact hRt (some (.int x)) D L H locs pc rls h.2 hR hS (Or.inl ⟨hdec, x, rfl, Or.inr ⟨h2, h.1⟩⟩)
    · exact absurd h id
  · simp only [am_co, Bool.and_eq_true, decide_eq_true_eq] at hco
    obtain ⟨rfl, hco⟩ := hco
    rw [Nat.add_sub_cancel_left] at hdec
    split at h
    · rename_i x
      exact hRt (some (.long x)) D L H locs pc rls h hR hS (Or.inr (Or.inl ⟨hdec, hco, x, rfl⟩))
    · exact absurd h id
  · simp only [am_co, Bool.and_eq_true, decide_eq_true_eq] at hco
    obtain ⟨rfl, hco⟩ := hco
    rw [Nat.add_sub_cancel_left] at hdec
    split at hco
    · rename_i o
      split at h
      · rename_i x
        exact hRt (some (.ref x)) D L H locs pc rls h hR hS (Or.inr (Or.inr (Or.inl ⟨hdec, ⟨o, rfl⟩, Or.inr ⟨x, rfl⟩⟩)))
      · exact hRt (some .null) D L H locs pc rls h hR hS (Or.inr (Or.inr (Or.inl ⟨hdec, ⟨o, rfl⟩, Or.inl rfl⟩)))
      · exact absurd h id
    · cases hco
  · simp only [am_co, Bool.and_eq_true, decide_eq_true_eq] at hco
    obtain ⟨rfl, hco⟩ := hco
    rw [Nat.add_sub_cancel_left] at hdec
    split at h
    · exact hRt none D L H locs pc rls h hR hS (Or.inr (Or.inr (Or.inr ⟨hdec, hco, rfl⟩)))
    · exact absurd h id
  · exact absurd h id
theorem am_any {fl : List (Nat × Nat × Nat × Bool × Bool)} {f : Nat × Nat × Nat × Bool × Bool → Bool} (h : fl.any f = true) : ∃ q ∈ fl, f q = true := List.any_eq_true.mp h
theorem am_nz {x : Int32} (h : x = 0 ∨ x = 1) : narrow .boolean (.int x) = .int x ∧ fits .boolean (.int x) = true ∧ vp_nar .boolean x = x := by
  rcases h with rfl | rfl <;> refine ⟨by decide +kernel, by decide +kernel, by decide +kernel⟩
theorem am_okD (cx : am_Cx p s m args c own cc nL dC dI cA) (hi : am_inj ad) (hf : ∀ q ∈ fl, am_flok own q) (hX : lw = true → va_X (ad 79) n xs s s.heap ∧ ad 79 < s.heap.size ∧ ¬ am_A ad (ad 79))
    (hC : ∀ (a : Nat) (ins : Instr) (b d : Nat), cs[a]? = some (ins, b, d) → am_HC p l e R s m args below meth c cells slots Q cc nL ad dC dI cA n xs ins b d (F a)) (hRt : am_HR p l e R s m args below meth c cells slots Q cc ad dC dI cA n xs ret K)
    (hdec : decode cc pc = .ok (ins, nx - pc)) (hco : am_co ret nL fl ki kl cs pc ins nx a b d v w = true) (h : am_sD lw n F K ins nx a b d v ls st D L (am_Sd p l e R s m args below meth c cells slots Q nL ad dC dI cA n xs)) : am_Sd p l e R s m args below meth c cells slots Q nL ad dC dI cA n xs pc ls st D L := by
  unfold am_sD at h
  split at h
  · -- getfield
    intro rls H locs hl hR hS
    obtain ⟨hx, hb, hml, hown, hts, hK, hN⟩ := cx
    simp only [am_co, Bool.and_eq_true, decide_eq_true_eq] at hco
    obtain ⟨rfl, hfl, hb12, hd⟩ := hco
    rw [Nat.add_sub_cancel_left] at hdec
    obtain ⟨q, hq, hq2⟩ := am_any hfl
    simp only [Bool.and_eq_true, decide_eq_true_eq] at hq2
    obtain ⟨rfl, rfl, rfl⟩ := hq2
    obtain ⟨r, hr, hrn, hrj, hr1, hrl, -⟩ := hf q hq
    obtain ⟨hin, -, -⟩ := am_cls hr
    split at h
    · rename_i k rest
      split at h
      · rename_i e1
        have et : am_tag k = q.2.1 := Nat.eq_of_beq_eq_true e1
        have hk : k < 79 := am_tag_lt (by omega)
        have he : (am_w ad cA D L)[k]? = some (ad k, .inr (q.2.1, am_fs ad (D k) k)) := by rw [am_w_get hk, am_e_ob (by omega), et]
        have hv : (am_fs ad (D k) k)[q.2.2.1]? = some (bif am_isr q.2.1 q.2.2.1 then Value.ref (ad (am_rho k q.2.2.1)) else .int (D k q.2.2.1)) := by
          rw [← et]
          have : q.2.2.1 < am_nf (am_tag k) := by rw [et, ← hrn]; exact hrj
          simp [am_fs, this]
        have key : W p l e R s m args below meth c H locs cells slots Q (F0 m (pc + 3) rls ((bif am_isr q.2.1 q.2.2.1 then Value.ref (ad (am_rho k q.2.2.1)) else .int (D k q.2.2.1)) :: rest.map (am_c ad))) := by
          cases hz : am_isr q.2.1 q.2.2.1 with
          | false =>
            rw [hz] at hd
            subst hd
            exact h rls H locs hl hR hS
          | true =>
            rw [hz] at hd
            subst hd
            exact h rls H locs hl hR hS
        rcases hrl with ⟨-, hw⟩ | ⟨-, hw⟩
        · exact va_get (D := (dC, dI)) (C := r.1) (T := r.2.1) (N := r.2.2) hx hb hts hin hown hK hR.1 k he hr q.2.2.1 hrj (hts _ hw) (fun _ z => by rw [hr1] at z; exact z) hv hdec key
        · exact va_getN (D := (dC, dI)) (C := r.1) (T := r.2.1) (N := r.2.2) hx hb hts hin hown hK hR.1 k he hr q.2.2.1 hrj (va_Nw.use rfl (hN _ hw)) (fun _ z => by rw [hr1] at z; exact z) hv hdec key
      · exact absurd h id
    · exact absurd h id
  · -- putfield
    intro rls H locs hl hR hS
    obtain ⟨hx, hb, hml, hown, hts, hK, hN⟩ := cx
    simp only [am_co, Bool.and_eq_true, decide_eq_true_eq] at hco
    obtain ⟨rfl, hfl, hb12, hd⟩ := hco
    rw [Nat.add_sub_cancel_left] at hdec
    obtain ⟨q, hq, hq2⟩ := am_any hfl
    simp only [Bool.and_eq_true, decide_eq_true_eq] at hq2
    obtain ⟨rfl, rfl, rfl, hput⟩ := hq2
    obtain ⟨r, hr, hrn, hrj, hr1, hrl, hp⟩ := hf q hq
    obtain ⟨hfin, hisr, hty⟩ := hp hput
    obtain ⟨hin, ⟨ty0, hty0⟩, hnm⟩ := am_cls hr
    split at h
    · rename_i x k rest
      split at h
      · rename_i e1
        have et : am_tag k = q.2.1 := Nat.eq_of_beq_eq_true e1
        have hk : k < 79 := am_tag_lt (by omega)
        have he : (am_w ad cA D L)[k]? = some (ad k, .inr (q.2.1, am_fs ad (D k) k)) := by rw [am_w_get hk, am_e_ob (by omega), et]
        have hlen : q.2.2.1 < (am_fs ad (D k) k).length := by
          have : q.2.2.1 < am_nf (am_tag k) := by rw [et, ← hrn]; exact hrj
          simpa [am_fs] using this
        have h2 : (narrow (if am_isz q.2.1 q.2.2.1 = true then FieldType.boolean else .int) (.int x) = .int x ∧ fits (if am_isz q.2.1 q.2.2.1 = true then FieldType.boolean else .int) (.int x) = true) ∧ am_Sd p l e R s m args below meth c cells slots Q nL ad dC dI cA n xs (pc + 3) ls rest (am_up D k q.2.2.1 x) L := by
          cases hz : am_isz q.2.1 q.2.2.1 with
          | false =>
            rw [hz] at hd
            subst hd
            exact ⟨⟨rfl, rfl⟩, h⟩
          | true =>
            rw [hz] at hd
            subst hd
            exact ⟨⟨(am_nz h.1).1, (am_nz h.1).2.1⟩, h.2⟩
        have key : ∀ (H1 : Heap) (locs1 : List Loc), va_P (dC, dI) am_cl ((am_w ad cA D L).set k (ad k, .inr (q.2.1, (am_fs ad (D k) k).set q.2.2.1 (.int x)))) H1 → va_D (am_A ad) ((am_w ad cA D L).set k (ad k, .inr (q.2.1, (am_fs ad (D k) k).set q.2.2.1 (.int x)))) → va_S (am_A ad) s.heap H1 locs1 → W p l e R s m args below meth c H1 locs1 cells slots Q (F0 m (pc + 3) rls (rest.map (am_c ad))) := by
          intro H1 locs1 hP1 _ hS1
          refine h2.2 rls H1 locs1 hl (am_R_put hk ?_ hR.2 hP1) hS1
          rw [am_fs_set (by rw [et]; exact hisr), am_e_ob (by omega), et]
        rcases hrl with ⟨-, hw⟩ | ⟨-, hw⟩
        · exact va_put (D := (dC, dI)) (C := r.1) (T := r.2.1) (N := r.2.2) hx hb hts hin ty0 hty0 hnm hown hK hR.1 (am_w_D hi) hS k he hr q.2.2.1 hrj (hts _ hw) (fun _ z => by rw [hr1] at z; exact z) hfin hty h2.1.1 h2.1.2 hlen hdec key
        · exact va_putN (D := (dC, dI)) (C := r.1) (T := r.2.1) (N := r.2.2) hx hb hts hin ty0 hty0 hnm hown hK hR.1 (am_w_D hi) hS k he hr q.2.2.1 hrj (va_Nw.use rfl (hN _ hw)) (fun _ z => by rw [hr1] at z; exact z) hfin hty h2.1.1 h2.1.2 hlen hdec key
      · exact absurd h id
    · exact absurd h id
  · -- iaload
    intro rls H locs hl hR hS
    obtain ⟨hx, hb, hml, hown, hts, hK, hN⟩ := cx
    simp only [am_co, decide_eq_true_eq] at hco
    subst hco
    rw [Nat.add_sub_cancel_left] at hdec
    split at h
    · rename_i i k rest
      split at h
      · rename_i e1
        have et : am_tag k = 100 := Nat.eq_of_beq_eq_true e1
        have hk : k < 79 := am_tag_lt (by omega)
        exact va_iald hx hb hK hR.1 k 0 (by rw [am_w_get hk, am_e_100 et]) rfl h.1 hdec (h.2 rls H locs hl hR hS)
      · split at h
        · split at h
          · rename_i e2
            have ek : k = 79 := Nat.eq_of_beq_eq_true e2
            subst ek
            obtain ⟨x1, x2, x3⟩ := hX rfl
            refine va_sld hx hb x1 x2 x3 hS h.1 hdec ?_
            have hlt : i.toNatClampNeg < n := Nat.not_le.mp fun q => h.1 (Or.inr q)
            rw [← hR.2 _ hlt]
            exact h.2 rls H locs hl hR hS
          · exact absurd h id
        · exact absurd h id
    · exact absurd h id
  · -- iastore
    intro rls H locs hl hR hS
    obtain ⟨hx, hb, hml, hown, hts, hK, hN⟩ := cx
    simp only [am_co, decide_eq_true_eq] at hco
    subst hco
    rw [Nat.add_sub_cancel_left] at hdec
    split at h
    · rename_i x i k rest
      split at h
      · rename_i e1
        have et : am_tag k = 100 := Nat.eq_of_beq_eq_true e1
        have hk : k < 79 := am_tag_lt (by omega)
        exact va_iast hx hb hK hR.1 (am_w_D hi) hS k 0 (by rw [am_w_get hk, am_e_100 et]) rfl h.1 hdec (fun H1 locs1 hP1 _ hS1 => h.2 rls H1 locs1 hl (am_R_put hk (by rw [am_e_100 et]) hR.2 hP1) hS1)
      · exact absurd h id
    · exact absurd h id
  · -- baload
    intro rls H locs hl hR hS
    obtain ⟨hx, hb, hml, hown, hts, hK, hN⟩ := cx
    simp only [am_co, decide_eq_true_eq] at hco
    subst hco
    rw [Nat.add_sub_cancel_left] at hdec
    split at h
    · rename_i i k rest
      split at h
      · rename_i e1
        have et : am_tag k = 101 := Nat.eq_of_beq_eq_true e1
        have hk : k < 79 := am_tag_lt (by omega)
        exact va_zald hx hb hK hR.1 k 1 (by rw [am_w_get hk, am_e_101 et]) rfl h.1 hdec (h.2 rls H locs hl hR hS)
      · exact absurd h id
    · exact absurd h id
  · -- bastore
    intro rls H locs hl hR hS
    obtain ⟨hx, hb, hml, hown, hts, hK, hN⟩ := cx
    simp only [am_co, decide_eq_true_eq] at hco
    subst hco
    rw [Nat.add_sub_cancel_left] at hdec
    split at h
    · rename_i x i k rest
      split at h
      · rename_i e1
        have et : am_tag k = 101 := Nat.eq_of_beq_eq_true e1
        have hk : k < 79 := am_tag_lt (by omega)
        exact va_zast hx hb hK hR.1 (am_w_D hi) hS k 1 (by rw [am_w_get hk, am_e_101 et]) rfl h.2.1 hdec (fun H1 locs1 hP1 _ hS1 => h.2.2 rls H1 locs1 hl (am_R_put hk (by rw [am_e_101 et, (am_nz h.1).2.2]) hR.2 hP1) hS1)
      · exact absurd h id
    · exact absurd h id
  · -- laload
    intro rls H locs hl hR hS
    obtain ⟨hx, hb, hml, hown, hts, hK, hN⟩ := cx
    simp only [am_co, decide_eq_true_eq] at hco
    subst hco
    rw [Nat.add_sub_cancel_left] at hdec
    split at h
    · rename_i i k rest
      split at h
      · rename_i e1
        have et : am_tag k = 102 := Nat.eq_of_beq_eq_true e1
        have hk : k < 79 := am_tag_lt (by omega)
        exact va_lald hx hb hK hR.1 k 2 (by rw [am_w_get hk, am_e_102 et]) rfl h.1 hdec (h.2 rls H locs hl hR hS)
      · exact absurd h id
    · exact absurd h id
  · -- lastore
    intro rls H locs hl hR hS
    obtain ⟨hx, hb, hml, hown, hts, hK, hN⟩ := cx
    simp only [am_co, decide_eq_true_eq] at hco
    subst hco
    rw [Nat.add_sub_cancel_left] at hdec
    split at h
    · rename_i x i k rest
      split at h
      · rename_i e1
        have et : am_tag k = 102 := Nat.eq_of_beq_eq_true e1
        have hk : k < 79 := am_tag_lt (by omega)
        have hk2 : k = 38 := am_102 et
        refine va_last hx hb hK hR.1 (am_w_D hi) hS k 2 (by rw [am_w_get hk, am_e_102 et]) rfl h.1 hdec (fun H1 locs1 hP1 _ hS1 => h.2 rls H1 locs1 hl ⟨?_, hR.2⟩ hS1)
        rwa [am_w_set (D' := D) (L' := vp_updL L i.toNatClampNeg x) (by rw [am_e_102 et]) (fun q _ hq => am_e_L (fun hz => hq (by rw [hk2]; exact am_102 hz)))] at hP1
      · exact absurd h id
    · exact absurd h id
  · -- aaload
    intro rls H locs hl hR hS
    obtain ⟨hx, hb, hml, hown, hts, hK, hN⟩ := cx
    simp only [am_co, decide_eq_true_eq] at hco
    subst hco
    rw [Nat.add_sub_cancel_left] at hdec
    split at h
    · rename_i i k rest
      split at h
      · rename_i e1
        have et : am_tag k = 103 := Nat.eq_of_beq_eq_true e1
        have hk : k < 79 := am_tag_lt (by omega)
        exact va_aldq (f := fun i => some (ad (am_rho k i))) hx hb hK hR.1 k 3 (by rw [am_w_get hk, am_e_103 et]) rfl h.1 hdec (h.2 rls H locs hl hR hS)
      · exact absurd h id
    · exact absurd h id
  · -- arraylength
    intro rls H locs hl hR hS
    obtain ⟨hx, hb, hml, hown, hts, hK, hN⟩ := cx
    simp only [am_co, decide_eq_true_eq] at hco
    subst hco
    rw [Nat.add_sub_cancel_left] at hdec
    split at h
    · rename_i k rest
      split at h
      · rename_i e1
        have e1 := Nat.le_of_ble_eq_true e1
        split at h
        · rename_i e2
          have e2 := Nat.le_of_ble_eq_true e2
          have hk : k < 79 := am_tag_lt (by omega)
          have h4 : am_tag k = 100 ∨ am_tag k = 101 ∨ am_tag k = 102 ∨ am_tag k = 103 := by omega
          rcases h4 with et | et | et | et
          · exact va_alen (x := (am_len k, .inl (D k))) hx hb hK hR.1 k 0 (by rw [am_w_get hk, am_e_100 et]) rfl rfl hdec (h rls H locs hl hR hS)
          · exact va_alen (x := (am_len k, .inl (D k))) hx hb hK hR.1 k 1 (by rw [am_w_get hk, am_e_101 et]) rfl rfl hdec (h rls H locs hl hR hS)
          · exact va_alen (x := (am_len k, .inr (.inl L))) hx hb hK hR.1 k 2 (by rw [am_w_get hk, am_e_102 et]) rfl rfl hdec (h rls H locs hl hR hS)
          · exact va_alen (x := (am_len k, .inr (.inr (.inr (.inr (fun i => some (ad (am_rho k i)))))))) hx hb hK hR.1 k 3 (by rw [am_w_get hk, am_e_103 et]) rfl rfl hdec (h rls H locs hl hR hS)
        · split at h
          · split at h
            · rename_i e3
              have ek : k = 79 := Nat.eq_of_beq_eq_true e3
              subst ek
              obtain ⟨x1, x2, x3⟩ := hX rfl
              exact va_slen hx hb x1 x2 x3 hS hdec (h rls H locs hl hR hS)
            · exact absurd h id
          · exact absurd h id
      · exact absurd h id
    · exact absurd h id
  · exact am_okE hC hRt hdec hco h
theorem am_okC (cx : am_Cx p s m args c own cc nL dC dI cA) (hi : am_inj ad) (hf : ∀ q ∈ fl, am_flok own q) (hX : lw = true → va_X (ad 79) n xs s s.heap ∧ ad 79 < s.heap.size ∧ ¬ am_A ad (ad 79))
    (hC : ∀ (a : Nat) (ins : Instr) (b d : Nat), cs[a]? = some (ins, b, d) → am_HC p l e R s m args below meth c cells slots Q cc nL ad dC dI cA n xs ins b d (F a)) (hRt : am_HR p l e R s m args below meth c cells slots Q cc ad dC dI cA n xs ret K)
    (hdec : decode cc pc = .ok (ins, nx - pc)) (hco : am_co ret nL fl ki kl cs pc ins nx a b d v w = true) (h : am_sC lw n F K pc ins nx a b d v ls st D L (am_Sd p l e R s m args below meth c cells slots Q nL ad dC dI cA n xs)) : am_Sd p l e R s m args below meth c cells slots Q nL ad dC dI cA n xs pc ls st D L := by
  unfold am_sC at h
  split at h
  · -- goto
    intro rls H locs hl hR hS
    obtain ⟨hx, hb, -⟩ := cx
    simp only [am_co, Bool.and_eq_true, decide_eq_true_eq] at hco
    obtain ⟨ht, rfl⟩ := hco
    rw [Nat.add_sub_cancel_left] at hdec
    exact lv_goto hx hb hdec ht (h rls H locs hl hR hS)
  · -- if_icmp
    intro rls H locs hl hR hS
    obtain ⟨hx, hb, -⟩ := cx
    simp only [am_co, Bool.and_eq_true, decide_eq_true_eq] at hco
    obtain ⟨ht, rfl⟩ := hco
    rw [Nat.add_sub_cancel_left] at hdec
    split at h
    · split at h
      · exact lv_icmp_eq hx hb hdec ht (fun q => h.1 q rls H locs hl hR hS) (fun q => h.2 q rls H locs hl hR hS)
      · exact lv_icmp_ne hx hb hdec ht (fun q => h.1 q rls H locs hl hR hS) (fun q => h.2 q rls H locs hl hR hS)
      · exact lv_icmp_lt hx hb hdec ht (fun q => h.1 q rls H locs hl hR hS) (fun q => h.2 q rls H locs hl hR hS)
      · exact lv_icmp_ge hx hb hdec ht (fun q => h.1 q rls H locs hl hR hS) (fun q => h.2 q rls H locs hl hR hS)
      · exact lv_icmp_gt hx hb hdec ht (fun q => h.1 q rls H locs hl hR hS) (fun q => h.2 q rls H locs hl hR hS)
      · exact lv_icmp_le hx hb hdec ht (fun q => h.1 q rls H locs hl hR hS) (fun q => h.2 q rls H locs hl hR hS)
    · exact absurd h id
  · -- ifCond
    intro rls H locs hl hR hS
    obtain ⟨hx, hb, -⟩ := cx
    simp only [am_co, Bool.and_eq_true, decide_eq_true_eq] at hco
    obtain ⟨ht, rfl⟩ := hco
    rw [Nat.add_sub_cancel_left] at hdec
    split at h
    · split at h
      · exact lv_if_eq hx hb hdec ht (fun q => h.1 q rls H locs hl hR hS) (fun q => h.2 q rls H locs hl hR hS)
      · exact lv_if_ne hx hb hdec ht (fun q => h.1 q rls H locs hl hR hS) (fun q => h.2 q rls H locs hl hR hS)
      · exact lv_if_lt hx hb hdec ht (fun q => h.1 q rls H locs hl hR hS) (fun q => h.2 q rls H locs hl hR hS)
      · exact lv_if_ge hx hb hdec ht (fun q => h.1 q rls H locs hl hR hS) (fun q => h.2 q rls H locs hl hR hS)
      · exact lv_if_gt hx hb hdec ht (fun q => h.1 q rls H locs hl hR hS) (fun q => h.2 q rls H locs hl hR hS)
      · exact lv_if_le hx hb hdec ht (fun q => h.1 q rls H locs hl hR hS) (fun q => h.2 q rls H locs hl hR hS)
    · exact absurd h id
  · -- ifnull
    intro rls H locs hl hR hS
    obtain ⟨hx, hb, -⟩ := cx
    simp only [am_co, Bool.and_eq_true, decide_eq_true_eq] at hco
    obtain ⟨ht, rfl⟩ := hco
    rw [Nat.add_sub_cancel_left] at hdec
    split at h
    · exact lv_ifnull hx hb hdec (h rls H locs hl hR hS)
    · exact lv_ifnullN hx hb hdec ht (h rls H locs hl hR hS)
    · exact absurd h id
  · -- ifnonnull
    intro rls H locs hl hR hS
    obtain ⟨hx, hb, -⟩ := cx
    simp only [am_co, Bool.and_eq_true, decide_eq_true_eq] at hco
    obtain ⟨ht, rfl⟩ := hco
    rw [Nat.add_sub_cancel_left] at hdec
    split at h
    · exact lv_ifnonnull hx hb hdec ht (h rls H locs hl hR hS)
    · exact lv_ifnonnullN hx hb hdec (h rls H locs hl hR hS)
    · exact absurd h id
  · -- tableswitch
    rename_i df lo hi' offs
    intro rls H locs hl hR hS
    obtain ⟨hx, hb, -⟩ := cx
    simp only [am_co, Bool.and_eq_true, decide_eq_true_eq] at hco
    obtain ⟨ht, hsz, hall⟩ := hco
    split at h
    · rename_i x rest
      by_cases hout : x.toInt < lo ∨ hi' < x.toInt
      · exact lv_tableOut hx hb hdec hout ht (h.2 hout rls H locs hl hR hS)
      · have h1 : ¬ x.toInt < lo := fun q => hout (Or.inl q)
        have h2 : ¬ hi' < x.toInt := fun q => hout (Or.inr q)
        have hlt : (x.toInt - lo).toNat < offs.size := by omega
        have ho : offs[(x.toInt - lo).toNat]? = some offs[(x.toInt - lo).toNat] := Array.getElem?_eq_getElem hlt
        have h0 : 0 ≤ (pc : Int) + offs[(x.toInt - lo).toNat] := by
          have := Array.all_eq_true.mp hall _ hlt
          simpa using this
        refine lv_tableIn hx hb hdec h1 h2 ho (tgt := ((pc : Int) + offs[(x.toInt - lo).toNat]).toNat) (by omega) (h.1 _ _ ho (by omega) rls H locs hl hR hS)
    · exact absurd h id
  · exact am_okD cx hi hf hX hC hRt hdec hco h
theorem am_okB (cx : am_Cx p s m args c own cc nL dC dI cA) (hi : am_inj ad) (hf : ∀ q ∈ fl, am_flok own q) (hX : lw = true → va_X (ad 79) n xs s s.heap ∧ ad 79 < s.heap.size ∧ ¬ am_A ad (ad 79))
    (hC : ∀ (a : Nat) (ins : Instr) (b d : Nat), cs[a]? = some (ins, b, d) → am_HC p l e R s m args below meth c cells slots Q cc nL ad dC dI cA n xs ins b d (F a)) (hRt : am_HR p l e R s m args below meth c cells slots Q cc ad dC dI cA n xs ret K)
    (hdec : decode cc pc = .ok (ins, nx - pc)) (hco : am_co ret nL fl ki kl cs pc ins nx a b d v w = true) (h : am_sB lw n F K pc ins nx a b d v ls st D L (am_Sd p l e R s m args below meth c cells slots Q nL ad dC dI cA n xs)) : am_Sd p l e R s m args below meth c cells slots Q nL ad dC dI cA n xs pc ls st D L := by
  unfold am_sB at h
  split at h
  · intro rls H locs hl hR hS
    obtain ⟨hx, hb, -⟩ := cx
    simp only [am_co, decide_eq_true_eq] at hco
    subst hco
    rw [Nat.add_sub_cancel_left] at hdec
    split at h
    · exact lv_iadd hx hb hdec (h rls H locs hl hR hS)
    · exact absurd h id
  · intro rls H locs hl hR hS
    obtain ⟨hx, hb, -⟩ := cx
    simp only [am_co, decide_eq_true_eq] at hco
    subst hco
    rw [Nat.add_sub_cancel_left] at hdec
    split at h
    · exact lv_isub hx hb hdec (h rls H locs hl hR hS)
    · exact absurd h id
  · intro rls H locs hl hR hS
    obtain ⟨hx, hb, -⟩ := cx
    simp only [am_co, decide_eq_true_eq] at hco
    subst hco
    rw [Nat.add_sub_cancel_left] at hdec
    split at h
    · exact lv_imul hx hb hdec (h rls H locs hl hR hS)
    · exact absurd h id
  · intro rls H locs hl hR hS
    obtain ⟨hx, hb, -⟩ := cx
    simp only [am_co, decide_eq_true_eq] at hco
    subst hco
    rw [Nat.add_sub_cancel_left] at hdec
    split at h
    · exact lv_iand hx hb hdec (h rls H locs hl hR hS)
    · exact absurd h id
  · intro rls H locs hl hR hS
    obtain ⟨hx, hb, -⟩ := cx
    simp only [am_co, decide_eq_true_eq] at hco
    subst hco
    rw [Nat.add_sub_cancel_left] at hdec
    split at h
    · exact lv_ior hx hb hdec (h rls H locs hl hR hS)
    · exact absurd h id
  · intro rls H locs hl hR hS
    obtain ⟨hx, hb, -⟩ := cx
    simp only [am_co, decide_eq_true_eq] at hco
    subst hco
    rw [Nat.add_sub_cancel_left] at hdec
    split at h
    · exact lv_ixor hx hb hdec (h rls H locs hl hR hS)
    · exact absurd h id
  · intro rls H locs hl hR hS
    obtain ⟨hx, hb, -⟩ := cx
    simp only [am_co, decide_eq_true_eq] at hco
    subst hco
    rw [Nat.add_sub_cancel_left] at hdec
    split at h
    · exact lv_ishl hx hb hdec (h rls H locs hl hR hS)
    · exact absurd h id
  · intro rls H locs hl hR hS
    obtain ⟨hx, hb, -⟩ := cx
    simp only [am_co, decide_eq_true_eq] at hco
    subst hco
    rw [Nat.add_sub_cancel_left] at hdec
    split at h
    · exact lv_ishr hx hb hdec (h rls H locs hl hR hS)
    · exact absurd h id
  · intro rls H locs hl hR hS
    obtain ⟨hx, hb, -⟩ := cx
    simp only [am_co, decide_eq_true_eq] at hco
    subst hco
    rw [Nat.add_sub_cancel_left] at hdec
    split at h
    · exact lv_iushr hx hb hdec rfl (h rls H locs hl hR hS)
    · exact absurd h id
  · intro rls H locs hl hR hS
    obtain ⟨hx, hb, -⟩ := cx
    simp only [am_co, decide_eq_true_eq] at hco
    subst hco
    rw [Nat.add_sub_cancel_left] at hdec
    split at h
    · exact lv_idiv hx hb hdec h.1 (h.2 rls H locs hl hR hS)
    · exact absurd h id
  · intro rls H locs hl hR hS
    obtain ⟨hx, hb, -⟩ := cx
    simp only [am_co, decide_eq_true_eq] at hco
    subst hco
    rw [Nat.add_sub_cancel_left] at hdec
    split at h
    · exact lv_irem hx hb hdec h.1 (h.2 rls H locs hl hR hS)
    · exact absurd h id
  · intro rls H locs hl hR hS
    obtain ⟨hx, hb, -⟩ := cx
    simp only [am_co, decide_eq_true_eq] at hco
    subst hco
    rw [Nat.add_sub_cancel_left] at hdec
    split at h
    · exact lv_ineg hx hb hdec (h rls H locs hl hR hS)
    · exact absurd h id
  · intro rls H locs hl hR hS
    obtain ⟨hx, hb, -⟩ := cx
    simp only [am_co, decide_eq_true_eq] at hco
    subst hco
    rw [Nat.add_sub_cancel_left] at hdec
    split at h
    · exact lv_ladd hx hb hdec (h rls H locs hl hR hS)
    · exact absurd h id
  · intro rls H locs hl hR hS
    obtain ⟨hx, hb, -⟩ := cx
    simp only [am_co, decide_eq_true_eq] at hco
    subst hco
    rw [Nat.add_sub_cancel_left] at hdec
    split at h
    · exact lv_lsub hx hb hdec (h rls H locs hl hR hS)
    · exact absurd h id
  · intro rls H locs hl hR hS
    obtain ⟨hx, hb, -⟩ := cx
    simp only [am_co, decide_eq_true_eq] at hco
    subst hco
    rw [Nat.add_sub_cancel_left] at hdec
    split at h
    · exact lv_lmul hx hb hdec (h rls H locs hl hR hS)
    · exact absurd h id
  · intro rls H locs hl hR hS
    obtain ⟨hx, hb, -⟩ := cx
    simp only [am_co, decide_eq_true_eq] at hco
    subst hco
    rw [Nat.add_sub_cancel_left] at hdec
    split at h
    · exact lv_ldiv hx hb hdec h.1 (h.2 rls H locs hl hR hS)
    · exact absurd h id
  · intro rls H locs hl hR hS
    obtain ⟨hx, hb, -⟩ := cx
    simp only [am_co, decide_eq_true_eq] at hco
    subst hco
    rw [Nat.add_sub_cancel_left] at hdec
    split at h
    · exact lv_lrem hx hb hdec h.1 (h.2 rls H locs hl hR hS)
    · exact absurd h id
  · intro rls H locs hl hR hS
    obtain ⟨hx, hb, -⟩ := cx
    simp only [am_co, decide_eq_true_eq] at hco
    subst hco
    rw [Nat.add_sub_cancel_left] at hdec
    split at h
    · exact lv_lshl hx hb hdec rfl (h rls H locs hl hR hS)
    · exact absurd h id
  · intro rls H locs hl hR hS
    obtain ⟨hx, hb, -⟩ := cx
    simp only [am_co, decide_eq_true_eq] at hco
    subst hco
    rw [Nat.add_sub_cancel_left] at hdec
    split at h
    · exact W.lcmp hx hb hdec (h rls H locs hl hR hS)
    · exact absurd h id
  · intro rls H locs hl hR hS
    obtain ⟨hx, hb, -⟩ := cx
    simp only [am_co, decide_eq_true_eq] at hco
    subst hco
    rw [Nat.add_sub_cancel_left] at hdec
    split at h
    · exact lv_i2l hx hb hdec rfl (h rls H locs hl hR hS)
    · exact absurd h id
  · intro rls H locs hl hR hS
    obtain ⟨hx, hb, -⟩ := cx
    simp only [am_co, decide_eq_true_eq] at hco
    subst hco
    rw [Nat.add_sub_cancel_left] at hdec
    split at h
    · exact lv_i2b hx hb hdec rfl (h rls H locs hl hR hS)
    · exact absurd h id
  · intro rls H locs hl hR hS
    obtain ⟨hx, hb, -⟩ := cx
    simp only [am_co, decide_eq_true_eq] at hco
    subst hco
    rw [Nat.add_sub_cancel_left] at hdec
    split at h
    · exact lv_i2s hx hb hdec rfl (h rls H locs hl hR hS)
    · exact absurd h id
  · exact am_okC cx hi hf hX hC hRt hdec hco h
theorem am_okA (cx : am_Cx p s m args c own cc nL dC dI cA) (hi : am_inj ad) (hf : ∀ q ∈ fl, am_flok own q) (hki : ∀ q ∈ ki, Cond.constant own q.1 q.2 ∈ am_tbl) (hkl : ∀ q ∈ kl, Cond.constantLong own q.1 q.2 ∈ am_tbl) (hX : lw = true → va_X (ad 79) n xs s s.heap ∧ ad 79 < s.heap.size ∧ ¬ am_A ad (ad 79))
    (hC : ∀ (a : Nat) (ins : Instr) (b d : Nat), cs[a]? = some (ins, b, d) → am_HC p l e R s m args below meth c cells slots Q cc nL ad dC dI cA n xs ins b d (F a)) (hRt : am_HR p l e R s m args below meth c cells slots Q cc ad dC dI cA n xs ret K)
    (hdec : decode cc pc = .ok (ins, nx - pc)) (hco : am_co ret nL fl ki kl cs pc ins nx a b d v w = true) (h : am_sA lw n F K pc ins nx a b d v w ls st D L (am_Sd p l e R s m args below meth c cells slots Q nL ad dC dI cA n xs)) : am_Sd p l e R s m args below meth c cells slots Q nL ad dC dI cA n xs pc ls st D L := by
  unfold am_sA at h
  split at h
  · intro rls H locs hl hR hS
    obtain ⟨hx, hb, hml, hown, hts, hK, hN⟩ := cx
    simp only [am_co, Bool.and_eq_true, decide_eq_true_eq] at hco
    obtain ⟨rfl, hv⟩ := hco
    rw [Nat.add_sub_cancel_left] at hdec
    exact lv_iconst hx hb hdec hv (h rls H locs hl hR hS)
  · intro rls H locs hl hR hS
    obtain ⟨hx, hb, hml, hown, hts, hK, hN⟩ := cx
    simp only [am_co, Bool.and_eq_true, decide_eq_true_eq] at hco
    obtain ⟨rfl, hv⟩ := hco
    rw [Nat.add_sub_cancel_left] at hdec
    exact lv_bipush hx hb hdec hv (h rls H locs hl hR hS)
  · intro rls H locs hl hR hS
    obtain ⟨hx, hb, hml, hown, hts, hK, hN⟩ := cx
    simp only [am_co, Bool.and_eq_true, decide_eq_true_eq] at hco
    obtain ⟨rfl, hv⟩ := hco
    rw [Nat.add_sub_cancel_left] at hdec
    exact lv_sipush hx hb hdec hv (h rls H locs hl hR hS)
  · intro rls H locs hl hR hS
    obtain ⟨hx, hb, hml, hown, hts, hK, hN⟩ := cx
    simp only [am_co, Bool.and_eq_true, decide_eq_true_eq] at hco
    obtain ⟨rfl, hv⟩ := hco
    rw [Nat.add_sub_cancel_left] at hdec
    exact lv_ldc hx hb hown (hts _ (hki _ hv)) hdec (h rls H locs hl hR hS)
  · intro rls H locs hl hR hS
    obtain ⟨hx, hb, hml, hown, hts, hK, hN⟩ := cx
    simp only [am_co, Bool.and_eq_true, decide_eq_true_eq] at hco
    obtain ⟨rfl, hv⟩ := hco
    rw [Nat.add_sub_cancel_left] at hdec
    exact lv_ldcw hx hb hown (hts _ (hki _ hv)) hdec (h rls H locs hl hR hS)
  · intro rls H locs hl hR hS
    obtain ⟨hx, hb, hml, hown, hts, hK, hN⟩ := cx
    simp only [am_co, Bool.and_eq_true, decide_eq_true_eq] at hco
    obtain ⟨rfl, hv⟩ := hco
    rw [Nat.add_sub_cancel_left] at hdec
    exact lv_lconst hx hb hdec hv (h rls H locs hl hR hS)
  · intro rls H locs hl hR hS
    obtain ⟨hx, hb, hml, hown, hts, hK, hN⟩ := cx
    simp only [am_co, Bool.and_eq_true, decide_eq_true_eq] at hco
    obtain ⟨rfl, hv⟩ := hco
    rw [Nat.add_sub_cancel_left] at hdec
    exact lv_ldc2 hx hb hown (hts _ (hkl _ hv)) hdec (h rls H locs hl hR hS)
  · intro rls H locs hl hR hS
    obtain ⟨hx, hb, hml, hown, hts, hK, hN⟩ := cx
    simp only [am_co, Bool.and_eq_true, decide_eq_true_eq] at hco
    subst hco
    rw [Nat.add_sub_cancel_left] at hdec
    exact lv_null hx hb hdec (h rls H locs hl hR hS)
  · intro rls H locs hl hR hS
    obtain ⟨hx, hb, hml, hown, hts, hK, hN⟩ := cx
    simp only [am_co, Bool.and_eq_true, decide_eq_true_eq] at hco
    obtain ⟨rfl, hv⟩ := hco
    rw [Nat.add_sub_cancel_left] at hdec
    split at h
    · rename_i e
      exact lv_iload hx hb hdec (by subst hv; exact hl.2.2 _ _ e) (h rls H locs hl hR hS)
    · exact absurd h id
  · intro rls H locs hl hR hS
    obtain ⟨hx, hb, hml, hown, hts, hK, hN⟩ := cx
    simp only [am_co, Bool.and_eq_true, decide_eq_true_eq] at hco
    obtain ⟨rfl, hv⟩ := hco
    rw [Nat.add_sub_cancel_left] at hdec
    split at h
    · rename_i e
      exact lv_iload_n hx hb hdec hv (hl.2.2 _ _ e) (h rls H locs hl hR hS)
    · exact absurd h id
  · intro rls H locs hl hR hS
    obtain ⟨hx, hb, hml, hown, hts, hK, hN⟩ := cx
    simp only [am_co, Bool.and_eq_true, decide_eq_true_eq] at hco
    obtain ⟨rfl, hv⟩ := hco
    rw [Nat.add_sub_cancel_left] at hdec
    split at h
    · rename_i e
      exact lv_lload hx hb hdec (by subst hv; exact hl.2.2 _ _ e) (h rls H locs hl hR hS)
    · exact absurd h id
  · intro rls H locs hl hR hS
    obtain ⟨hx, hb, hml, hown, hts, hK, hN⟩ := cx
    simp only [am_co, Bool.and_eq_true, decide_eq_true_eq] at hco
    obtain ⟨rfl, hv⟩ := hco
    rw [Nat.add_sub_cancel_left] at hdec
    split at h
    · rename_i e
      exact lv_lload_n hx hb hdec hv (hl.2.2 _ _ e) (h rls H locs hl hR hS)
    · exact absurd h id
  · intro rls H locs hl hR hS
    obtain ⟨hx, hb, hml, hown, hts, hK, hN⟩ := cx
    simp only [am_co, Bool.and_eq_true, decide_eq_true_eq] at hco
    obtain ⟨rfl, hv⟩ := hco
    rw [Nat.add_sub_cancel_left] at hdec
    split at h
    · rename_i e
      exact lv_aload hx hb hdec (by subst hv; exact hl.2.2 _ _ e) (h rls H locs hl hR hS)
    · rename_i e
      exact lv_aloadN hx hb hdec (by subst hv; exact hl.2.2 _ _ e) (h rls H locs hl hR hS)
    · exact absurd h id
  · intro rls H locs hl hR hS
    obtain ⟨hx, hb, hml, hown, hts, hK, hN⟩ := cx
    simp only [am_co, Bool.and_eq_true, decide_eq_true_eq] at hco
    obtain ⟨rfl, hv⟩ := hco
    rw [Nat.add_sub_cancel_left] at hdec
    split at h
    · rename_i e
      exact lv_aload_n hx hb hdec hv (hl.2.2 _ _ e) (h rls H locs hl hR hS)
    · rename_i e
      exact lv_aload_nN hx hb hdec hv (hl.2.2 _ _ e) (h rls H locs hl hR hS)
    · exact absurd h id
  · intro rls H locs hl hR hS
    obtain ⟨hx, hb, hml, hown, hts, hK, hN⟩ := cx
    simp only [am_co, Bool.and_eq_true, decide_eq_true_eq] at hco
    obtain ⟨rfl, rfl, hn⟩ := hco
    rw [Nat.add_sub_cancel_left] at hdec
    split at h
    · obtain ⟨ls', h1, -, h3⟩ := am_s1_ex _ _ _ _ h
      exact lv_istore hx hb hdec (am_lv_has hl) hn rfl (fun rls' hh => h1 rls' H locs (am_lv1 hl hh h3) hR hS)
    · exact absurd h id
  · intro rls H locs hl hR hS
    obtain ⟨hx, hb, hml, hown, hts, hK, hN⟩ := cx
    simp only [am_co, Bool.and_eq_true, decide_eq_true_eq] at hco
    obtain ⟨rfl, hv, hn⟩ := hco
    rw [Nat.add_sub_cancel_left] at hdec
    split at h
    · obtain ⟨ls', h1, -, h3⟩ := am_s1_ex _ _ _ _ h
      exact lv_istore_n hx hb hdec hv (am_lv_has hl) hn rfl (fun rls' hh => h1 rls' H locs (am_lv1 hl hh h3) hR hS)
    · exact absurd h id
  · intro rls H locs hl hR hS
    obtain ⟨hx, hb, hml, hown, hts, hK, hN⟩ := cx
    simp only [am_co, Bool.and_eq_true, decide_eq_true_eq] at hco
    obtain ⟨rfl, rfl, hn⟩ := hco
    rw [Nat.add_sub_cancel_left] at hdec
    split at h
    · obtain ⟨ls', h1, -, h3⟩ := am_s2_ex _ _ _ _ h
      exact lv_lstore hx hb hdec (am_lv_has hl) hn rfl (fun rls' hh => h1 rls' H locs (am_lv2 hl hh h3) hR hS)
    · exact absurd h id
  · intro rls H locs hl hR hS
    obtain ⟨hx, hb, hml, hown, hts, hK, hN⟩ := cx
    simp only [am_co, Bool.and_eq_true, decide_eq_true_eq] at hco
    obtain ⟨rfl, hv, hn⟩ := hco
    rw [Nat.add_sub_cancel_left] at hdec
    split at h
    · obtain ⟨ls', h1, -, h3⟩ := am_s2_ex _ _ _ _ h
      exact lv_lstore_n hx hb hdec hv (am_lv_has hl) hn rfl (fun rls' hh => h1 rls' H locs (am_lv2 hl hh h3) hR hS)
    · exact absurd h id
  · intro rls H locs hl hR hS
    obtain ⟨hx, hb, hml, hown, hts, hK, hN⟩ := cx
    simp only [am_co, Bool.and_eq_true, decide_eq_true_eq] at hco
    obtain ⟨rfl, rfl, hn⟩ := hco
    rw [Nat.add_sub_cancel_left] at hdec
    split at h
    · obtain ⟨ls', h1, -, h3⟩ := am_s1_ex _ _ _ _ h
      exact lv_astore hx hb hdec (am_lv_has hl) hn rfl (fun rls' hh => h1 rls' H locs (am_lv1 hl hh h3) hR hS)
    · obtain ⟨ls', h1, -, h3⟩ := am_s1_ex _ _ _ _ h
      exact lv_astoreN hx hb hdec (am_lv_has hl) hn rfl (fun rls' hh => h1 rls' H locs (am_lv1 hl hh h3) hR hS)
    · exact absurd h id
  · intro rls H locs hl hR hS
    obtain ⟨hx, hb, hml, hown, hts, hK, hN⟩ := cx
    simp only [am_co, Bool.and_eq_true, decide_eq_true_eq] at hco
    obtain ⟨rfl, hv, hn⟩ := hco
    rw [Nat.add_sub_cancel_left] at hdec
    split at h
    · obtain ⟨ls', h1, -, h3⟩ := am_s1_ex _ _ _ _ h
      exact lv_astore_n hx hb hdec hv (am_lv_has hl) hn rfl (fun rls' hh => h1 rls' H locs (am_lv1 hl hh h3) hR hS)
    · obtain ⟨ls', h1, -, h3⟩ := am_s1_ex _ _ _ _ h
      exact lv_astore_nN hx hb hdec hv (am_lv_has hl) hn rfl (fun rls' hh => h1 rls' H locs (am_lv1 hl hh h3) hR hS)
    · exact absurd h id
  · intro rls H locs hl hR hS
    obtain ⟨hx, hb, hml, hown, hts, hK, hN⟩ := cx
    simp only [am_co, Bool.and_eq_true, decide_eq_true_eq] at hco
    obtain ⟨rfl, rfl, hv, hn⟩ := hco
    rw [Nat.add_sub_cancel_left] at hdec
    split at h
    · rename_i x e
      obtain ⟨ls', h1, -, h3⟩ := am_s1_ex _ _ _ _ h
      obtain ⟨j, hj⟩ := List.getElem?_of_mem (am_ents_mem hl e)
      exact lv_iinc hx hb hdec (am_lv_has hl) hj (by rw [hv]) hn rfl (fun rls' hh => h1 rls' H locs (am_lv1 hl hh h3) hR hS)
    · exact absurd h id
  · intro rls H locs hl hR hS
    obtain ⟨hx, hb, hml, hown, hts, hK, hN⟩ := cx
    simp only [am_co, Bool.and_eq_true, decide_eq_true_eq] at hco
    subst hco
    rw [Nat.add_sub_cancel_left] at hdec
    split at h
    · exact lv_dup hx hb hdec rfl (h rls H locs hl hR hS)
    · exact lv_dup hx hb hdec rfl (h rls H locs hl hR hS)
    · exact absurd h id
  · intro rls H locs hl hR hS
    obtain ⟨hx, hb, hml, hown, hts, hK, hN⟩ := cx
    simp only [am_co, Bool.and_eq_true, decide_eq_true_eq] at hco
    subst hco
    rw [Nat.add_sub_cancel_left] at hdec
    split at h
    · exact lv_dup2_11 hx hb hdec rfl rfl (h rls H locs hl hR hS)
    · exact absurd h id
  · intro rls H locs hl hR hS
    obtain ⟨hx, hb, hml, hown, hts, hK, hN⟩ := cx
    simp only [am_co, Bool.and_eq_true, decide_eq_true_eq] at hco
    subst hco
    rw [Nat.add_sub_cancel_left] at hdec
    split at h
    · exact lv_pop hx hb hdec rfl (h rls H locs hl hR hS)
    · exact absurd h id
  · exact am_okB cx hi hf hX hC hRt hdec hco h
/-- THE ABSTRACT MACHINE IS SOUND -/
theorem am_sound {C : Nat → Option am_I} (cx : am_Cx p s m args c own cc nL dC dI cA) (hi : am_inj ad) (hf : ∀ q ∈ fl, am_flok own q) (hki : ∀ q ∈ ki, Cond.constant own q.1 q.2 ∈ am_tbl) (hkl : ∀ q ∈ kl, Cond.constantLong own q.1 q.2 ∈ am_tbl) (hX : lw = true → va_X (ad 79) n xs s s.heap ∧ ad 79 < s.heap.size ∧ ¬ am_A ad (ad 79))
    (hC : ∀ (a : Nat) (ins : Instr) (b d : Nat), cs[a]? = some (ins, b, d) → am_HC p l e R s m args below meth c cells slots Q cc nL ad dC dI cA n xs ins b d (F a)) (hRt : am_HR p l e R s m args below meth c cells slots Q cc ad dC dI cA n xs ret K)
    (hck : ∀ pc, am_ck cc ret nL fl ki kl cs pc (C pc) = true) (h : am_Wp lw n C F K pc ls st D L) : am_Sd p l e R s m args below meth c cells slots Q nL ad dC dI cA n xs pc ls st D L := by
  refine h _ (fun pc ls st D L h' => ?_)
  unfold am_st at h'
  have hk := hck pc
  split at h'
  · rename_i q ins nx a b d v w e1
    rw [e1] at hk
    simp only [am_ck, Bool.and_eq_true, decide_eq_true_eq] at hk
    exact am_okA cx hi hf hki hkl hX hC hRt hk.1 hk.2 h'
  · exact absurd h' id
end SO
end
section
/-! methods by contract, and calls -/
def am_lo : Nat → List Value → am_V
  | n, [] => List.replicate n none
  | n, .long x :: t => some (.long x) :: none :: am_lo (n - 2) t
  | n, v :: t => some v :: am_lo (n - 1) t
theorem am_gl_rep (n i : Nat) : am_gl (List.replicate n none) i = none := by
  induction n generalizing i with
  | zero => rfl
  | succ n ih =>
    cases i with
    | zero => rfl
    | succ i => exact ih i
theorem am_lo_args (ad : Nat → Nat) : ∀ (as : List Value) (n i b : Nat) (v : Value), (∀ v ∈ as, ∀ x, v ≠ .double x) → am_gl (am_lo n as) i = some v → (b + i, am_c ad v) ∈ lv_args b (as.map (am_c ad))
  | [], n, i, b, v, _, h => by rw [am_lo, am_gl_rep] at h; cases h
  | v0 :: t, n, i, b, v, hd, h => by
    have hd' : ∀ v ∈ t, ∀ x, v ≠ .double x := fun v hv => hd v (List.mem_cons_of_mem _ hv)
    have one : ∀ (w : Value), v0 = w → am_lo n (v0 :: t) = some w :: am_lo (n - 1) t → w.category = 1 → (b + i, am_c ad v) ∈ lv_args b ((v0 :: t).map (am_c ad)) := by
      intro w hw hlo hc
      rw [hlo] at h
      subst hw
      match i, h with
      | 0, h => simp only [am_gl, Option.some.injEq] at h; subst h; exact List.mem_cons_self
      | i + 1, h =>
        have := am_lo_args ad t (n - 1) i (b + 1) v hd' h
        rw [List.map_cons, lv_args, if_neg (by rw [am_c_cat, hc]; decide)]
        refine List.mem_cons_of_mem _ ?_
        rw [show b + (i + 1) = b + 1 + i by omega]
        exact this
    cases v0 with
    | long x =>
      match i, h with
      | 0, h => simp only [am_lo, am_gl, Option.some.injEq] at h; subst h; exact List.mem_cons_self
      | 1, h => simp [am_lo, am_gl] at h
      | i + 2, h =>
        have := am_lo_args ad t (n - 2) i (b + 2) v hd' h
        rw [List.map_cons, lv_args, if_pos (by rw [am_c_cat]; rfl)]
        refine List.mem_cons_of_mem _ ?_
        rw [show b + (i + 2) = b + 2 + i by omega]
        exact this
    | double x => exact absurd rfl (hd _ List.mem_cons_self x)
    | int x => exact one _ rfl rfl rfl
    | float x => exact one _ rfl rfl rfl
    | null => exact one _ rfl rfl rfl
    | ref x => exact one _ rfl rfl rfl
    | retAddr x => exact one _ rfl rfl rfl
/-- the script's length is of no use outside the law -/
theorem am_Wp_n {n n' : Nat} {C : Nat → Option am_I} {F : Nat → am_Sp} {K : am_K} {pc : Nat} {ls : am_V} {st : List Value} {D : am_D} {L : am_L} (h : am_Wp false n C F K pc ls st D L) : am_Wp false n' C F K pc ls st D L := by
  intro X hX
  refine h X (fun pc ls st D L h' => hX pc ls st D L ?_)
  unfold am_st at h' ⊢
  split at h'
  · unfold am_sA at h' ⊢
    split at h'
    all_goals first
      | exact h'
      | (unfold am_sB at h' ⊢
         split at h'
         all_goals first
           | exact h'
           | (unfold am_sC at h' ⊢
              split at h'
              all_goals first
                | exact h'
                | (unfold am_sD at h' ⊢
                   split at h'
                   all_goals first
                     | exact h'
                     | (repeat' split at h'
                        all_goals first
                          | exact h'
                          | exact absurd h' id))))
  · exact h'
def am_rm (d : Nat) : Room := { frames := d, cells := 0, slots := 0, locals := 32 * d }
def am_ws (y : MethodName) (bytes : ByteArray) (maxL : Nat) (ret : Option FieldType) : List Cond := Cond.code y bytes maxL ret :: am_tbl
def am_Pc (ad : Nat → Nat) (dC : Nat → ClassId) (dI : Nat → Nat → Nat) (cA : Nat → ClassId) (n : Nat) (xs : Nat → Int32) (as : List Value) (D : am_D) (L : am_L) : Array Value → State → Prop := fun v U => v = (as.map (am_c ad)).toArray ∧ am_R ad dC dI cA n xs D L U.heap ∧ va_K (dC, dI) am_cl (am_tys cA) U ∧ am_N U
def am_Qc (ad : Nat → Nat) (dC : Nat → ClassId) (dI : Nat → Nat → Nat) (cA : Nat → ClassId) (n : Nat) (xs : Nat → Int32) (K : am_K) : Array Value → State → Outcome → State → Prop := fun _ st o t => (∃ (r : Option Value) (D : am_D) (L : am_L), o = .returned (r.map (am_c ad)) ∧ K r D L ∧ am_R ad dC dI cA n xs D L t.heap) ∧ va_F (am_A ad) st t
/-- a method keeps its spec, d calls deep at most -/
def am_Ok (l : Launch) (y : MethodName) (bytes : ByteArray) (maxL : Nat) (ret : Option FieldType) (d : Nat) (S : am_Sp) : Prop := ∀ (ad : Nat → Nat) (dC : Nat → ClassId) (dI : Nat → Nat → Nat) (cA : Nat → ClassId) (n : Nat) (xs : Nat → Int32), am_inj ad → ∀ (as : List Value) (D : am_D) (L : am_L) (K : am_K), S as D L K → Met l y (am_ws y bytes maxL ret) (am_rm d) (am_Pc ad dC dI cA n xs as D L) (am_Qc ad dC dI cA n xs K) 0 0 (am_A ad)
/-- a call, wherever it stands in a method of the class own that may go d deep -/
def am_Call (l : Launch) (own : String) (d : Nat) (ins : Instr) (b dd : Nat) (S : am_Sp) : Prop := ∀ (p : Program) (e : Env) (R : Room) (s : State) (m : MethodId) (args : Array Value) (below : List Frame) (meth : Method) (c : Code) (cells slots : Nat) (Q : State → Prop) (cc : ByteArray) (nL : Nat) (ad : Nat → Nat) (dC : Nat → ClassId) (dI : Nat → Nat → Nat) (cA : Nat → ClassId) (n : Nat) (xs : Nat → Int32), d ≤ R.frames → 32 * d ≤ R.locals → cells ≤ R.cells → slots ≤ R.slots → am_inj ad → am_Cx p s m args c own cc nL dC dI cA → am_HC p l e R s m args below meth c cells slots Q cc nL ad dC dI cA n xs ins b dd S
theorem am_blind {ad : Nat → Nat} {dC : Nat → ClassId} {dI : Nat → Nat → Nat} {cA : Nat → ClassId} {n : Nat} {xs : Nat → Int32} {as : List Value} {D : am_D} {L : am_L} : FrameBlind (am_Pc ad dC dI cA n xs as D L) := fun a U g mk q => ⟨q.1, q.2.1, va_K.moved (u := U) (U := U.calling g mk a) (Vm.Alike.refl U.vm) q.2.2.1, am_N_vm (u := U) (U := U.calling g mk a) rfl q.2.2.2⟩
theorem am_pre {s U : State} {ad : Nat → Nat} {dC : Nat → ClassId} {dI : Nat → Nat → Nat} {cA : Nat → ClassId} {n : Nat} {xs : Nat → Int32} {as : List Value} {D : am_D} {L : am_L} {H : Heap} (hR : am_R ad dC dI cA n xs D L H) (hK : va_K (dC, dI) am_cl (am_tys cA) s) (hN : am_N s) (hU : U.heap = H) (hW : s.WarmedH U.vm) : am_Pc ad dC dI cA n xs as D L (as.map (am_c ad)).toArray U := ⟨rfl, by rw [hU]; exact hR, va_K.moved hW.alike hK, am_N_warm hW hN⟩
theorem am_w8_sum (ad : Nat → Nat) : ∀ st : List Value, ((st.map (am_c ad)).map fun v => v.category).sum = am_w8 st
  | [] => rfl
  | v :: t => by
    have ih := am_w8_sum ad t
    simp only [List.map_cons, List.sum_cons, am_c_cat, ih]
    cases v <;> simp [am_w8, Value.category] <;> omega
/-- what comes behind a call -/
theorem am_back {p : Program} {l : Launch} {e : Env} {R : Room} {s : State} {m : MethodId} {args : Array Value} {below : List Frame} {meth : Method} {c : Code} {H : Heap} {locs : List Loc} {cells slots : Nat} {Q : State → Prop} {ad : Nat → Nat} {dC : Nat → ClassId} {dI : Nat → Nat → Nat} {cA : Nat → ClassId} {n : Nat} {xs : Nat → Int32} {K : am_K} {pc : Nat} {rls : Array Slot} {st0 rest : List Value} {a : Array Value}
    (hr : va_Run p l e R s m args below meth c H locs cells slots 0 0 (F0 m pc rls st0) rest (am_Qc ad dC dI cA n xs K a) (am_A ad)) (hS : va_S (am_A ad) s.heap H locs)
    (kk : ∀ (r : Option Value) (D' : am_D) (L' : am_L) (H' : Heap) (locs' : List Loc), K r D' L' → am_R ad dC dI cA n xs D' L' H' → va_S (am_A ad) s.heap H' locs' → W p l e R s m args below meth c H' locs' cells slots Q (F0 m (pc + 3) rls ((r.map (am_c ad)).toList ++ rest))) : W p l e R s m args below meth c H locs cells slots Q (F0 m pc rls st0) := by
  intro T hT X
  obtain ⟨v, st₀, t, T', L, h0, X', hL, e1, e2, ⟨⟨r, D', L', hv, hp, hb⟩, hz, hk⟩, st⟩ := hr T hT X
  cases hv
  rw [h0] at hz hk
  obtain ⟨t2, a1, b1⟩ := kk r D' L' T'.heap (locs ++ L) hp (by rw [e1]; exact hb)
    ⟨Nat.le_trans hS.1 (by rw [e1]; exact hz), fun q h1 h2 => by rw [e1, hk q (Nat.lt_of_lt_of_le h1 hS.1) h2]; exact hS.2.1 q h1 h2, fun q hq => by
      rcases List.mem_append.mp hq with h | h
      · exact hS.2.2 q h
      · exact hL q h⟩ T' rfl X'
  exact ⟨t2, st t2 a1, b1⟩
theorem am_GW {y : MethodName} {bytes : ByteArray} {maxL : Nat} {ret : Option FieldType} (h : Cond.code y bytes maxL ret ∈ am_tbl) : GoodIn am_tbl (am_ws y bytes maxL ret) := by
  intro w hw
  rcases List.mem_cons.mp hw with rfl | hw
  · exact am_goodS _ h
  · exact am_goodS w hw
/-- a call of an instance method, by methodLink -/
theorem am_callV {l : Launch} {own C : String} {d dc dd index nA : Nat} {y : MethodName} {bytes : ByteArray} {maxL : Nat} {ret : Option FieldType} {S : am_Sp} {T : u_T} {N : Nat} (hok : am_Ok l y bytes maxL ret dc S) (hcode : Cond.code y bytes maxL ret ∈ am_tbl) (hl : Cond.methodLink own index y ∈ am_tbl) (hin : Cond.instanceMethod y ∈ am_tbl) (hse : Cond.selects C y y ∈ am_tbl) (hini : Cond.initialized C ∈ am_tbl) (hcl : am_cl[dd]? = some (C, T, N)) (hdd : dd < 12)
    (hd : y.cls = C ∧ y.cls ≠ "java/lang/invoke/MethodHandle" ∧ y.cls ≠ "java/lang/invoke/VarHandle" ∧ (parseMethodDescriptor y.desc).map (fun d => d.parameters.length) = some nA) (hdc : dc + 1 ≤ d) (hml : maxL ≤ 13) : am_Call l own d (.invokevirtual index) (nA + 1) dd S := by
  intro p e R s m args below meth c cells slots Q cc nL ad dC dI cA n xs hR1 hR2 hR3 hR4 hi cx as D L K' H locs pc rls rest hS0 hlen hw8 hrec hR hS hsz hdec kk
  obtain ⟨hx, hb, hml', hown, hts, hK, hN⟩ := cx
  obtain ⟨k, as', rfl, htag⟩ := hrec ⟨_, rfl⟩
  have hk : k < 79 := am_tag_lt (by omega)
  have he : (am_w ad cA D L)[k]? = some (ad k, .inr (dd, am_fs ad (D k) k)) := by rw [am_w_get hk, am_e_ob (by omega), htag]
  have hG : GoodIn am_tbl (wsV own index C y (am_ws y bytes maxL ret)) := by
    intro w hw
    unfold wsV at hw
    simp only [List.cons_append, List.nil_append, List.mem_cons] at hw
    rcases hw with rfl | rfl | rfl | rfl | hw
    · exact am_goodS _ hl
    · exact am_goodS _ hin
    · exact am_goodS _ hse
    · exact am_goodS _ hini
    · exact am_GW hcode w hw
  have cw : CallW R s args own C index y bytes maxL ret (am_ws y bytes maxL ret) (am_rm dc) 0 0 nA := cwV nA hts hG rfl rfl rfl hd ⟨by show dc + 1 ≤ R.frames; omega, by show 8 + (maxL + 11) + 32 * dc ≤ R.locals; omega⟩
  have hst : (List.map (am_c ad) (Value.ref k :: as')).reverse ++ List.map (am_c ad) rest = (as'.map (am_c ad)).reverse ++ .ref (ad k) :: rest.map (am_c ad) := by simp [am_c]
  rw [hst]
  refine am_back (va_runV (As := as'.map (am_c ad)) (rest := rest.map (am_c ad)) ⟨hx, hb, hml', hown, hts⟩ (hok ad dC dI cA n xs hi _ D L K' hS0) cw ⟨am_blind, va_recv hK hR.1 hcl he, fun U hU hW => am_pre hR hK hN hU hW⟩ rfl (by simpa using hlen) hsz rfl ?_ hdec ⟨by omega, by omega⟩) hS kk
  show 2 * 0 + _ ≤ 8
  rw [am_w8_sum]
  omega
/-- a call of a static method, by methodLink -/
theorem am_callS {l : Launch} {own : String} {d dc dd index nA : Nat} {y : MethodName} {bytes : ByteArray} {maxL : Nat} {ret : Option FieldType} {S : am_Sp} (hok : am_Ok l y bytes maxL ret dc S) (hcode : Cond.code y bytes maxL ret ∈ am_tbl) (hl : Cond.methodLink own index y ∈ am_tbl) (hst : Cond.static y ∈ am_tbl) (hini : Cond.initialized y.cls ∈ am_tbl)
    (hd : y.cls ≠ "java/lang/invoke/MethodHandle" ∧ y.cls ≠ "java/lang/invoke/VarHandle" ∧ (parseMethodDescriptor y.desc).map (fun d => d.parameters.length) = some nA) (hdc : dc + 1 ≤ d) (hml : maxL ≤ 13) : am_Call l own d (.invokestatic index) nA dd S := by
  intro p e R s m args below meth c cells slots Q cc nL ad dC dI cA n xs hR1 hR2 hR3 hR4 hi cx as D L K' H locs pc rls rest hS0 hlen hw8 hrec hR hS hsz hdec kk
  obtain ⟨hx, hb, hml', hown, hts, hK, hN⟩ := cx
  have hG : GoodIn am_tbl (va_wsS own index y (am_ws y bytes maxL ret)) := by
    intro w hw
    unfold va_wsS at hw
    simp only [List.cons_append, List.nil_append, List.mem_cons] at hw
    rcases hw with rfl | rfl | rfl | hw
    · exact am_goodS _ hl
    · exact am_goodS _ hst
    · exact am_goodS _ hini
    · exact am_GW hcode w hw
  have cw := va_cwS (R := R) (rm := am_rm dc) (mc := 0) (ms := 0) nA hts hG rfl rfl rfl hd ⟨by show dc + 1 ≤ R.frames; omega, by show 8 + (maxL + 11) + 32 * dc ≤ R.locals; omega⟩
  refine am_back (va_runS (As := as.map (am_c ad)) (rest := rest.map (am_c ad)) ⟨hx, hb, hml', hown, hts⟩ (hok ad dC dI cA n xs hi _ D L K' hS0) cw ⟨am_blind, fun U hU hW => am_pre hR hK hN hU hW⟩ rfl (by simpa using hlen) hsz rfl ?_ hdec ⟨by omega, by omega⟩) hS kk
  show 2 * 0 + _ ≤ 8
  rw [am_w8_sum]
  omega
/-- a call of a nest mate's instance method, by methodLinkNest -/
theorem am_callVN {l : Launch} {own C : String} {d dc dd index nA : Nat} {y : MethodName} {bytes : ByteArray} {maxL : Nat} {ret : Option FieldType} {S : am_Sp} {T : u_T} {N : Nat} (hok : am_Ok l y bytes maxL ret dc S) (hcode : Cond.code y bytes maxL ret ∈ am_tbl) (hl : Cond.methodLinkNest own index y "MilkHorse" ∈ am_nest) (hin : Cond.instanceMethod y ∈ am_tbl) (hse : Cond.selects C y y ∈ am_tbl) (hini : Cond.initialized y.cls ∈ am_tbl) (hcl : am_cl[dd]? = some (C, T, N)) (hdd : dd < 12)
    (hd : y.cls ≠ "java/lang/invoke/MethodHandle" ∧ y.cls ≠ "java/lang/invoke/VarHandle" ∧ (parseMethodDescriptor y.desc).map (fun d => d.parameters.length) = some nA) (hdc : dc + 1 ≤ d) (hml : maxL ≤ 13) : am_Call l own d (.invokevirtual index) (nA + 1) dd S := by
  intro p e R s m args below meth c cells slots Q cc nL ad dC dI cA n xs hR1 hR2 hR3 hR4 hi cx as D L K' H locs pc rls rest hS0 hlen hw8 hrec hR hS hsz hdec kk
  obtain ⟨hx, hb, hml', hown, hts, hK, hN⟩ := cx
  obtain ⟨k, as', rfl, htag⟩ := hrec ⟨_, rfl⟩
  have hk : k < 79 := am_tag_lt (by omega)
  have he : (am_w ad cA D L)[k]? = some (ad k, .inr (dd, am_fs ad (D k) k)) := by rw [am_w_get hk, am_e_ob (by omega), htag]
  have cw := va_cnB (R := R) (rm := am_rm dc) (mc := 0) (ms := 0) nA hts (am_GW hcode) rfl rfl rfl (hN _ hl) (hts _ hini) hd ⟨by show dc + 1 ≤ R.frames; omega, by show 8 + (maxL + 11) + 32 * dc ≤ R.locals; omega⟩
  have hst : (List.map (am_c ad) (Value.ref k :: as')).reverse ++ List.map (am_c ad) rest = (as'.map (am_c ad)).reverse ++ .ref (ad k) :: rest.map (am_c ad) := by simp [am_c]
  rw [hst]
  refine am_back (va_runVN (As := as'.map (am_c ad)) (rest := rest.map (am_c ad)) ⟨hx, hb, hml', hown, hts⟩ (hok ad dC dI cA n xs hi _ D L K' hS0) ⟨cw, hts _ hin, hts _ hse⟩ ⟨am_blind, va_recv hK hR.1 hcl he, fun U hU hW => am_pre hR hK hN hU hW⟩ rfl (by simpa using hlen) hsz rfl ?_ hdec ⟨by omega, by omega⟩) hS kk
  show 2 * 0 + _ ≤ 8
  rw [am_w8_sum]
  omega
/-- a call of a nest mate's static method -/
theorem am_callSN {l : Launch} {own : String} {d dc dd index nA : Nat} {y : MethodName} {bytes : ByteArray} {maxL : Nat} {ret : Option FieldType} {S : am_Sp} (hok : am_Ok l y bytes maxL ret dc S) (hcode : Cond.code y bytes maxL ret ∈ am_tbl) (hl : Cond.methodLinkNest own index y "MilkHorse" ∈ am_nest) (hst : Cond.static y ∈ am_tbl) (hini : Cond.initialized y.cls ∈ am_tbl)
    (hd : y.cls ≠ "java/lang/invoke/MethodHandle" ∧ y.cls ≠ "java/lang/invoke/VarHandle" ∧ (parseMethodDescriptor y.desc).map (fun d => d.parameters.length) = some nA) (hdc : dc + 1 ≤ d) (hml : maxL ≤ 13) : am_Call l own d (.invokestatic index) nA dd S := by
  intro p e R s m args below meth c cells slots Q cc nL ad dC dI cA n xs hR1 hR2 hR3 hR4 hi cx as D L K' H locs pc rls rest hS0 hlen hw8 hrec hR hS hsz hdec kk
  obtain ⟨hx, hb, hml', hown, hts, hK, hN⟩ := cx
  have cw := va_cnB (R := R) (rm := am_rm dc) (mc := 0) (ms := 0) nA hts (am_GW hcode) rfl rfl rfl (hN _ hl) (hts _ hini) hd ⟨by show dc + 1 ≤ R.frames; omega, by show 8 + (maxL + 11) + 32 * dc ≤ R.locals; omega⟩
  refine am_back (va_runSN (As := as.map (am_c ad)) (rest := rest.map (am_c ad)) ⟨hx, hb, hml', hown, hts⟩ (hok ad dC dI cA n xs hi _ D L K' hS0) ⟨cw, hts _ hst, trivial⟩ ⟨am_blind, fun U hU hW => am_pre hR hK hN hU hW⟩ rfl (by simpa using hlen) hsz rfl ?_ hdec ⟨by omega, by omega⟩) hS kk
  show 2 * 0 + _ ≤ 8
  rw [am_w8_sum]
  omega
def am_fit : Nat → List Value → Bool
  | _, [] => true
  | n, .long _ :: t => Nat.ble 2 n && am_fit (n - 2) t
  | _, .double _ :: _ => false
  | n, _ :: t => Nat.ble 1 n && am_fit (n - 1) t
theorem am_fit_ok (ad : Nat → Nat) : ∀ (as : List Value) (n : Nat), am_fit n as = true → (lg_sl (as.map (am_c ad))).length ≤ n ∧ ∀ v ∈ as, ∀ x, v ≠ .double x
  | [], n, _ => ⟨by simp [lg_sl], fun v hv => by cases hv⟩
  | v0 :: t, n, h => by
    have one : v0.category = 1 → (Nat.ble 1 n && am_fit (n - 1) t) = true → (∀ x, v0 ≠ .double x) → (lg_sl ((v0 :: t).map (am_c ad))).length ≤ n ∧ ∀ v ∈ v0 :: t, ∀ x, v ≠ .double x := by
      intro hc h hn
      rw [Bool.and_eq_true] at h
      obtain ⟨a1, a2⟩ := am_fit_ok ad t (n - 1) h.2
      have h1 := Nat.le_of_ble_eq_true h.1
      refine ⟨?_, fun v hv => ?_⟩
      · have : lg_sl ((v0 :: t).map (am_c ad)) = [.val (am_c ad v0)] ++ lg_sl (t.map (am_c ad)) := by
          simp only [lg_sl, List.map_cons, List.flatMap_cons, am_c_cat, hc]; rfl
        rw [this, List.length_append]
        simp only [List.length_cons, List.length_nil]
        omega
      · rcases List.mem_cons.mp hv with rfl | hv
        · exact hn
        · exact a2 v hv
    cases v0 with
    | long x =>
      simp only [am_fit, Bool.and_eq_true] at h
      obtain ⟨a1, a2⟩ := am_fit_ok ad t (n - 2) h.2
      have h1 := Nat.le_of_ble_eq_true h.1
      refine ⟨?_, fun v hv => ?_⟩
      · have : lg_sl ((Value.long x :: t).map (am_c ad)) = [.val (.long x), .second] ++ lg_sl (t.map (am_c ad)) := rfl
        rw [this, List.length_append]
        simp only [List.length_cons, List.length_nil]
        omega
      · rcases List.mem_cons.mp hv with rfl | hv
        · intro y hy; cases hy
        · exact a2 v hv
    | double x => cases h
    | int x => exact one rfl h (fun y hy => by cases hy)
    | float x => exact one rfl h (fun y hy => by cases hy)
    | null => exact one rfl h (fun y hy => by cases hy)
    | ref x => exact one rfl h (fun y hy => by cases hy)
    | retAddr x => exact one rfl h (fun y hy => by cases hy)
theorem am_ret {p : Program} {l : Launch} {e : Env} {R : Room} {s : State} {m : MethodId} {args : Array Value} {below : List Frame} {meth : Method} {c : Code} {cc : ByteArray} {ad : Nat → Nat} {dC : Nat → ClassId} {dI : Nat → Nat → Nat} {cA : Nat → ClassId} {n : Nat} {xs : Nat → Int32} {ret : Option FieldType} {K : am_K} (hx : p.tables.exec = Jvm.exec) (hb : c.code = cc) (hr : meth.sig.returnType = ret) (hlocks : meth.locks = false) : am_HR p l e R s m args below meth c 0 0 (MQ below (am_Qc ad dC dI cA n xs K) args s 0 0 (am_A ad)) cc ad dC dI cA n xs ret K := by
  intro r D L H locs pc rls hK hR hS hcase
  rcases hcase with ⟨hdec, x, rfl, h2⟩ | ⟨hdec, h2, x, rfl⟩ | ⟨hdec, ⟨o, h2⟩, h3⟩ | ⟨hdec, h2, rfl⟩
  · rcases h2 with h2 | ⟨h2, h3⟩
    · exact W.zret (v := x) (ty := .int) hx hb (hr.trans h2) rfl (fun t ht hW => ⟨⟨_, D, L, rfl, hK, by rw [ht]; exact hR⟩, hS.F ht⟩) hS.2.2 hdec hlocks
    · exact W.zret (v := x) (ty := .boolean) hx hb (hr.trans h2) (am_nz h3).1 (fun t ht hW => ⟨⟨_, D, L, rfl, hK, by rw [ht]; exact hR⟩, hS.F ht⟩) hS.2.2 hdec hlocks
  · exact W.lret (v := x) hx hb (hr.trans h2) (fun t ht hW => ⟨⟨_, D, L, rfl, hK, by rw [ht]; exact hR⟩, hS.F ht⟩) hS.2.2 hdec hlocks
  · rcases h3 with rfl | ⟨k, rfl⟩
    · exact W.aret (v := .null) hx hb (hr.trans h2) (Or.inl ⟨o, rfl⟩) (Or.inl rfl) (fun t ht hW => ⟨⟨_, D, L, rfl, hK, by rw [ht]; exact hR⟩, hS.F ht⟩) hS.2.2 hdec hlocks
    · exact W.aret (v := .ref (ad k)) hx hb (hr.trans h2) (Or.inl ⟨o, rfl⟩) (Or.inr ⟨_, rfl⟩) (fun t ht hW => ⟨⟨_, D, L, rfl, hK, by rw [ht]; exact hR⟩, hS.F ht⟩) hS.2.2 hdec hlocks
  · exact W.vret hx hb (hr.trans h2) (fun t ht hW => ⟨⟨_, D, L, rfl, hK, by rw [ht]; exact hR⟩, hS.F ht⟩) hS.2.2 hdec hlocks
/-- A METHOD KEEPS ITS SPEC -/
theorem am_ok_of {l : Launch} {y : MethodName} {bytes : ByteArray} {maxL : Nat} {ret : Option FieldType} {d : Nat} {S : am_Sp} {fl : List (Nat × Nat × Nat × Bool × Bool)} {ki : List (Nat × Int32)} {kl : List (Nat × Int64)} {cs : List (Instr × Nat × Nat)} {C : Nat → Option am_I} {F : Nat → am_Sp}
    (hy : plainName y.cls = true) (hf : ∀ q ∈ fl, am_flok y.cls q) (hki : ∀ q ∈ ki, Cond.constant y.cls q.1 q.2 ∈ am_tbl) (hkl : ∀ q ∈ kl, Cond.constantLong y.cls q.1 q.2 ∈ am_tbl) (hck : ∀ pc, am_ck bytes ret maxL fl ki kl cs pc (C pc) = true) (hC : ∀ (a : Nat) (ins : Instr) (b dd : Nat), cs[a]? = some (ins, b, dd) → am_Call l y.cls d ins b dd (F a))
    (hW : ∀ (as : List Value) (D : am_D) (L : am_L) (K : am_K), S as D L K → am_fit maxL as = true ∧ am_Wp false 0 C F K 0 (am_lo maxL as) [] D L) : am_Ok l y bytes maxL ret d S := by
  intro ad dC dI cA n xs hi as D L K hS
  obtain ⟨hfit, hwp⟩ := hW as D L K hS
  refine Met.ofW (cc := bytes) (maxL := maxL) (ret := ret) (ws' := am_tbl) hy rfl ?_
  intro p e s m args below meth c s₁ B hml hv
  obtain ⟨rfl, hR, hK, hN⟩ := hv
  have hx := B.exec
  have hb := B.bytes
  have hr := B.returns
  have hts0 := atoms_spec (ws := am_ws y bytes maxL ret) B.pre
  have hts : ∀ w ∈ am_tbl, w.before (as.map (am_c ad)).toArray s = true := fun w hw => hts0 w (List.mem_cons_of_mem _ hw)
  have hown : s.vm.findClass y.cls = some m.cls := findClass_of_methodNamed B.named
  have cx : am_Cx p s m (as.map (am_c ad)).toArray c y.cls bytes maxL dC dI cA := ⟨hx, hb, hml, hown, hts, hK, hN⟩
  obtain ⟨f1, f2⟩ := am_fit_ok ad as maxL hfit
  have hl := lv_entry (as.map (am_c ad)) (n := maxL) f1
  have h0 : am_Sd p l e (am_rm d) s m (as.map (am_c ad)).toArray below meth c 0 0 (MQ below (am_Qc ad dC dI cA n xs K) (as.map (am_c ad)).toArray s 0 0 (am_A ad)) maxL ad dC dI cA n xs 0 (am_lo maxL as) [] D L := by
    have hwp' : am_Wp false n C F K 0 (am_lo maxL as) [] D L := am_Wp_n hwp
    exact am_sound cx hi hf hki hkl (fun h => by cases h) (fun a ins b dd h => hC a ins b dd h p e (am_rm d) s m _ below meth c 0 0 _ bytes maxL ad dC dI cA n xs (Nat.le_refl d) (Nat.le_refl (32 * d)) (Nat.le_refl 0) (Nat.le_refl 0) hi cx) (am_ret hx hb hr B.notSynchronized) hck hwp'
  rw [lg_entry_eq]
  exact h0 _ s.heap [] ⟨hl.1, hl.2.1, fun i v hv => hl.2.2 (i, am_c ad v) (by simpa using am_lo_args ad as maxL i 0 v f2 hv)⟩ hR va_S.rf
end
section
theorem am_m1 {w : Cond} {i : Nat} (hi : tables_1_1[i]? = some w) (hg : goodWord w = true) : w ∈ am_tbl := List.mem_filter.mpr ⟨List.mem_append_right _ (List.mem_append_left _ (List.mem_of_getElem? hi)), hg⟩
theorem am_n1 {w : Cond} {i : Nat} (hi : tables_1_1[i]? = some w) (hg : am_isN w = true) : w ∈ am_nest := List.mem_filter.mpr ⟨List.mem_append_left _ (List.mem_of_getElem? hi), hg⟩
theorem am_m2 {w : Cond} {i : Nat} (hi : tables_1_2[i]? = some w) (hg : goodWord w = true) : w ∈ am_tbl := List.mem_filter.mpr ⟨List.mem_append_right _ (List.mem_append_right _ (List.mem_append_left _ (List.mem_of_getElem? hi))), hg⟩
theorem am_n2 {w : Cond} {i : Nat} (hi : tables_1_2[i]? = some w) (hg : am_isN w = true) : w ∈ am_nest := List.mem_filter.mpr ⟨List.mem_append_right _ (List.mem_append_left _ (List.mem_of_getElem? hi)), hg⟩
theorem am_m3 {w : Cond} {i : Nat} (hi : tables_1_3[i]? = some w) (hg : goodWord w = true) : w ∈ am_tbl := List.mem_filter.mpr ⟨List.mem_append_right _ (List.mem_append_right _ (List.mem_append_right _ (List.mem_append_left _ (List.mem_of_getElem? hi)))), hg⟩
theorem am_n3 {w : Cond} {i : Nat} (hi : tables_1_3[i]? = some w) (hg : am_isN w = true) : w ∈ am_nest := List.mem_filter.mpr ⟨List.mem_append_right _ (List.mem_append_right _ (List.mem_append_left _ (List.mem_of_getElem? hi))), hg⟩
theorem am_m4 {w : Cond} {i : Nat} (hi : tables_1_4[i]? = some w) (hg : goodWord w = true) : w ∈ am_tbl := List.mem_filter.mpr ⟨List.mem_append_right _ (List.mem_append_right _ (List.mem_append_right _ (List.mem_append_right _ (List.mem_append_left _ (List.mem_of_getElem? hi))))), hg⟩
theorem am_n4 {w : Cond} {i : Nat} (hi : tables_1_4[i]? = some w) (hg : am_isN w = true) : w ∈ am_nest := List.mem_filter.mpr ⟨List.mem_append_right _ (List.mem_append_right _ (List.mem_append_right _ (List.mem_append_left _ (List.mem_of_getElem? hi)))), hg⟩
theorem am_m5 {w : Cond} {i : Nat} (hi : tables_1_5[i]? = some w) (hg : goodWord w = true) : w ∈ am_tbl := List.mem_filter.mpr ⟨List.mem_append_right _ (List.mem_append_right _ (List.mem_append_right _ (List.mem_append_right _ (List.mem_append_right _ (List.mem_append_left _ (List.mem_of_getElem? hi)))))), hg⟩
theorem am_n5 {w : Cond} {i : Nat} (hi : tables_1_5[i]? = some w) (hg : am_isN w = true) : w ∈ am_nest := List.mem_filter.mpr ⟨List.mem_append_right _ (List.mem_append_right _ (List.mem_append_right _ (List.mem_append_right _ (List.mem_append_left _ (List.mem_of_getElem? hi))))), hg⟩
theorem am_m6 {w : Cond} {i : Nat} (hi : tables_1_6[i]? = some w) (hg : goodWord w = true) : w ∈ am_tbl := List.mem_filter.mpr ⟨List.mem_append_right _ (List.mem_append_right _ (List.mem_append_right _ (List.mem_append_right _ (List.mem_append_right _ (List.mem_append_right _ (List.mem_of_getElem? hi)))))), hg⟩
theorem am_n6 {w : Cond} {i : Nat} (hi : tables_1_6[i]? = some w) (hg : am_isN w = true) : w ∈ am_nest := List.mem_filter.mpr ⟨List.mem_append_right _ (List.mem_append_right _ (List.mem_append_right _ (List.mem_append_right _ (List.mem_append_right _ (List.mem_of_getElem? hi))))), hg⟩
theorem flX_14 : am_flok "MilkHorse" (14, 10, 0, false, false) := ⟨(R_10, F_10, 17), rfl, rfl, by decide, rfl, Or.inl ⟨rfl, am_m2 (i := 94) rfl rfl⟩, fun h => absurd h (by decide)⟩
theorem flX_18 : am_flok "MilkHorse" (18, 10, 1, false, false) := ⟨(R_10, F_10, 17), rfl, rfl, by decide, rfl, Or.inl ⟨rfl, am_m2 (i := 95) rfl rfl⟩, fun h => absurd h (by decide)⟩
theorem flX_21 : am_flok "MilkHorse" (21, 10, 2, false, false) := ⟨(R_10, F_10, 17), rfl, rfl, by decide, rfl, Or.inl ⟨rfl, am_m2 (i := 96) rfl rfl⟩, fun h => absurd h (by decide)⟩
theorem flX_27 : am_flok "MilkHorse" (27, 10, 3, false, false) := ⟨(R_10, F_10, 17), rfl, rfl, by decide, rfl, Or.inl ⟨rfl, am_m2 (i := 97) rfl rfl⟩, fun h => absurd h (by decide)⟩
theorem flX_34 : am_flok "MilkHorse" (34, 10, 4, false, false) := ⟨(R_10, F_10, 17), rfl, rfl, by decide, rfl, Or.inl ⟨rfl, am_m2 (i := 98) rfl rfl⟩, fun h => absurd h (by decide)⟩
theorem flX_41 : am_flok "MilkHorse" (41, 10, 5, false, false) := ⟨(R_10, F_10, 17), rfl, rfl, by decide, rfl, Or.inl ⟨rfl, am_m2 (i := 99) rfl rfl⟩, fun h => absurd h (by decide)⟩
theorem flX_45 : am_flok "MilkHorse" (45, 10, 6, false, false) := ⟨(R_10, F_10, 17), rfl, rfl, by decide, rfl, Or.inl ⟨rfl, am_m2 (i := 100) rfl rfl⟩, fun h => absurd h (by decide)⟩
theorem flX_51 : am_flok "MilkHorse" (51, 10, 7, false, false) := ⟨(R_10, F_10, 17), rfl, rfl, by decide, rfl, Or.inl ⟨rfl, am_m2 (i := 101) rfl rfl⟩, fun h => absurd h (by decide)⟩
theorem flX_58 : am_flok "MilkHorse" (58, 10, 8, false, false) := ⟨(R_10, F_10, 17), rfl, rfl, by decide, rfl, Or.inl ⟨rfl, am_m2 (i := 102) rfl rfl⟩, fun h => absurd h (by decide)⟩
theorem flX_65 : am_flok "MilkHorse" (65, 10, 9, false, false) := ⟨(R_10, F_10, 17), rfl, rfl, by decide, rfl, Or.inl ⟨rfl, am_m2 (i := 103) rfl rfl⟩, fun h => absurd h (by decide)⟩
theorem flX_69 : am_flok "MilkHorse" (69, 10, 10, false, false) := ⟨(R_10, F_10, 17), rfl, rfl, by decide, rfl, Or.inl ⟨rfl, am_m2 (i := 104) rfl rfl⟩, fun h => absurd h (by decide)⟩
theorem flX_72 : am_flok "MilkHorse" (72, 10, 11, false, false) := ⟨(R_10, F_10, 17), rfl, rfl, by decide, rfl, Or.inl ⟨rfl, am_m2 (i := 105) rfl rfl⟩, fun h => absurd h (by decide)⟩
theorem flX_78 : am_flok "MilkHorse" (78, 10, 12, false, false) := ⟨(R_10, F_10, 17), rfl, rfl, by decide, rfl, Or.inl ⟨rfl, am_m2 (i := 106) rfl rfl⟩, fun h => absurd h (by decide)⟩
theorem flX_85 : am_flok "MilkHorse" (85, 10, 13, false, false) := ⟨(R_10, F_10, 17), rfl, rfl, by decide, rfl, Or.inl ⟨rfl, am_m2 (i := 107) rfl rfl⟩, fun h => absurd h (by decide)⟩
theorem flX_89 : am_flok "MilkHorse" (89, 10, 14, false, false) := ⟨(R_10, F_10, 17), rfl, rfl, by decide, rfl, Or.inl ⟨rfl, am_m2 (i := 108) rfl rfl⟩, fun h => absurd h (by decide)⟩
theorem flX_95 : am_flok "MilkHorse" (95, 10, 15, false, false) := ⟨(R_10, F_10, 17), rfl, rfl, by decide, rfl, Or.inl ⟨rfl, am_m2 (i := 109) rfl rfl⟩, fun h => absurd h (by decide)⟩
theorem flX_99 : am_flok "MilkHorse" (99, 10, 16, false, true) := ⟨(R_10, F_10, 17), rfl, rfl, by decide, rfl, Or.inl ⟨rfl, am_m2 (i := 110) rfl rfl⟩, fun _ => ⟨rfl, rfl, (by decide +kernel)⟩⟩
theorem flX_129 : am_flok "MilkHorse" (129, 4, 0, true, false) := ⟨(R_4, F_4, 8), rfl, rfl, by decide, rfl, Or.inr ⟨rfl, am_n1 (i := 98) rfl rfl⟩, fun h => absurd h (by decide)⟩
theorem flX_132 : am_flok "MilkHorse" (132, 4, 1, true, false) := ⟨(R_4, F_4, 8), rfl, rfl, by decide, rfl, Or.inr ⟨rfl, am_n1 (i := 101) rfl rfl⟩, fun h => absurd h (by decide)⟩
theorem flX_138 : am_flok "MilkHorse" (138, 4, 4, true, true) := ⟨(R_4, F_4, 8), rfl, rfl, by decide, rfl, Or.inr ⟨rfl, am_n1 (i := 108) rfl rfl⟩, fun _ => ⟨rfl, rfl, (by decide +kernel)⟩⟩
theorem flX_141 : am_flok "MilkHorse" (141, 4, 5, true, true) := ⟨(R_4, F_4, 8), rfl, rfl, by decide, rfl, Or.inr ⟨rfl, am_n1 (i := 111) rfl rfl⟩, fun _ => ⟨rfl, rfl, (by decide +kernel)⟩⟩
theorem flX_144 : am_flok "MilkHorse" (144, 4, 6, true, true) := ⟨(R_4, F_4, 8), rfl, rfl, by decide, rfl, Or.inr ⟨rfl, am_n1 (i := 114) rfl rfl⟩, fun _ => ⟨rfl, rfl, (by decide +kernel)⟩⟩
theorem flX_158 : am_flok "MilkHorse" (158, 5, 3, true, true) := ⟨(R_5, F_5, 4), rfl, rfl, by decide, rfl, Or.inr ⟨rfl, am_n2 (i := 84) rfl rfl⟩, fun _ => ⟨rfl, rfl, (by decide +kernel)⟩⟩
theorem flX_165 : am_flok "MilkHorse" (165, 5, 2, true, true) := ⟨(R_5, F_5, 4), rfl, rfl, by decide, rfl, Or.inr ⟨rfl, am_n2 (i := 82) rfl rfl⟩, fun _ => ⟨rfl, rfl, (by decide +kernel)⟩⟩
theorem flX_168 : am_flok "MilkHorse" (168, 5, 0, true, false) := ⟨(R_5, F_5, 4), rfl, rfl, by decide, rfl, Or.inr ⟨rfl, am_n2 (i := 78) rfl rfl⟩, fun h => absurd h (by decide)⟩
theorem flX_177 : am_flok "MilkHorse" (177, 2, 0, true, false) := ⟨(R_2, F_2, 7), rfl, rfl, by decide, rfl, Or.inr ⟨rfl, am_n1 (i := 216) rfl rfl⟩, fun h => absurd h (by decide)⟩
theorem flX_180 : am_flok "MilkHorse" (180, 2, 1, true, false) := ⟨(R_2, F_2, 7), rfl, rfl, by decide, rfl, Or.inr ⟨rfl, am_n1 (i := 218) rfl rfl⟩, fun h => absurd h (by decide)⟩
theorem flX_183 : am_flok "MilkHorse" (183, 2, 2, true, false) := ⟨(R_2, F_2, 7), rfl, rfl, by decide, rfl, Or.inr ⟨rfl, am_n1 (i := 220) rfl rfl⟩, fun h => absurd h (by decide)⟩
theorem flX_186 : am_flok "MilkHorse" (186, 2, 3, true, false) := ⟨(R_2, F_2, 7), rfl, rfl, by decide, rfl, Or.inr ⟨rfl, am_n1 (i := 222) rfl rfl⟩, fun h => absurd h (by decide)⟩
theorem flX_189 : am_flok "MilkHorse" (189, 2, 4, true, true) := ⟨(R_2, F_2, 7), rfl, rfl, by decide, rfl, Or.inr ⟨rfl, am_n1 (i := 224) rfl rfl⟩, fun _ => ⟨rfl, rfl, (by decide +kernel)⟩⟩
theorem flX_192 : am_flok "MilkHorse" (192, 2, 5, true, true) := ⟨(R_2, F_2, 7), rfl, rfl, by decide, rfl, Or.inr ⟨rfl, am_n1 (i := 226) rfl rfl⟩, fun _ => ⟨rfl, rfl, (by decide +kernel)⟩⟩
theorem flX_195 : am_flok "MilkHorse" (195, 1, 4, true, true) := ⟨(R_1, F_1, 5), rfl, rfl, by decide, rfl, Or.inr ⟨rfl, am_n2 (i := 16) rfl rfl⟩, fun _ => ⟨rfl, rfl, (by decide +kernel)⟩⟩
theorem flX_212 : am_flok "MilkHorse" (212, 9, 13, true, true) := ⟨(R_9, F_9, 17), rfl, rfl, by decide, rfl, Or.inr ⟨rfl, am_n1 (i := 166) rfl rfl⟩, fun _ => ⟨rfl, rfl, (by decide +kernel)⟩⟩
theorem flX_225 : am_flok "MilkHorse" (225, 1, 1, true, true) := ⟨(R_1, F_1, 5), rfl, rfl, by decide, rfl, Or.inr ⟨rfl, am_n2 (i := 12) rfl rfl⟩, fun _ => ⟨rfl, rfl, (by decide +kernel)⟩⟩
theorem flX_228 : am_flok "MilkHorse" (228, 7, 3, true, true) := ⟨(R_7, F_7, 4), rfl, rfl, by decide, rfl, Or.inr ⟨rfl, am_n2 (i := 41) rfl rfl⟩, fun _ => ⟨rfl, rfl, (by decide +kernel)⟩⟩
theorem flX_232 : am_flok "MilkHorse" (232, 7, 0, true, true) := ⟨(R_7, F_7, 4), rfl, rfl, by decide, rfl, Or.inr ⟨rfl, am_n2 (i := 35) rfl rfl⟩, fun _ => ⟨rfl, rfl, (by decide +kernel)⟩⟩
theorem flX_235 : am_flok "MilkHorse" (235, 7, 1, true, true) := ⟨(R_7, F_7, 4), rfl, rfl, by decide, rfl, Or.inr ⟨rfl, am_n2 (i := 37) rfl rfl⟩, fun _ => ⟨rfl, rfl, (by decide +kernel)⟩⟩
theorem flX_238 : am_flok "MilkHorse" (238, 7, 2, true, true) := ⟨(R_7, F_7, 4), rfl, rfl, by decide, rfl, Or.inr ⟨rfl, am_n2 (i := 39) rfl rfl⟩, fun _ => ⟨rfl, rfl, (by decide +kernel)⟩⟩
theorem flX_243 : am_flok "MilkHorse" (243, 3, 3, true, true) := ⟨(R_3, F_3, 4), rfl, rfl, by decide, rfl, Or.inr ⟨rfl, am_n1 (i := 63) rfl rfl⟩, fun _ => ⟨rfl, rfl, (by decide +kernel)⟩⟩
theorem flX_244 : am_flok "MilkHorse" (244, 4, 7, true, true) := ⟨(R_4, F_4, 8), rfl, rfl, by decide, rfl, Or.inr ⟨rfl, am_n1 (i := 117) rfl rfl⟩, fun _ => ⟨rfl, rfl, (by decide +kernel)⟩⟩
theorem flX_263 : am_flok "MilkHorse" (263, 0, 2, true, true) := ⟨(R_0, F_0, 3), rfl, rfl, by decide, rfl, Or.inr ⟨rfl, am_n2 (i := 61) rfl rfl⟩, fun _ => ⟨rfl, rfl, (by decide +kernel)⟩⟩
theorem flX_293 : am_flok "MilkHorse" (293, 5, 1, true, true) := ⟨(R_5, F_5, 4), rfl, rfl, by decide, rfl, Or.inr ⟨rfl, am_n2 (i := 80) rfl rfl⟩, fun _ => ⟨rfl, rfl, (by decide +kernel)⟩⟩
theorem flX_309 : am_flok "MilkHorse" (309, 4, 3, true, true) := ⟨(R_4, F_4, 8), rfl, rfl, by decide, rfl, Or.inr ⟨rfl, am_n1 (i := 105) rfl rfl⟩, fun _ => ⟨rfl, rfl, (by decide +kernel)⟩⟩
theorem flX_312 : am_flok "MilkHorse" (312, 8, 4, true, true) := ⟨(R_8, F_8, 5), rfl, rfl, by decide, rfl, Or.inr ⟨rfl, am_n1 (i := 36) rfl rfl⟩, fun _ => ⟨rfl, rfl, (by decide +kernel)⟩⟩
theorem flX_319 : am_flok "MilkHorse" (319, 6, 2, true, true) := ⟨(R_6, F_6, 3), rfl, rfl, by decide, rfl, Or.inr ⟨rfl, am_n1 (i := 82) rfl rfl⟩, fun _ => ⟨rfl, rfl, (by decide +kernel)⟩⟩
theorem flX_395 : am_flok "MilkHorse" (395, 4, 2, true, false) := ⟨(R_4, F_4, 8), rfl, rfl, by decide, rfl, Or.inr ⟨rfl, am_n1 (i := 103) rfl rfl⟩, fun h => absurd h (by decide)⟩
theorem flX_397 : am_flok "MilkHorse" (397, 2, 6, true, true) := ⟨(R_2, F_2, 7), rfl, rfl, by decide, rfl, Or.inr ⟨rfl, am_n1 (i := 228) rfl rfl⟩, fun _ => ⟨rfl, rfl, (by decide +kernel)⟩⟩
theorem flX_409 : am_flok "MilkHorse" (409, 9, 15, true, true) := ⟨(R_9, F_9, 17), rfl, rfl, by decide, rfl, Or.inr ⟨rfl, am_n1 (i := 171) rfl rfl⟩, fun _ => ⟨rfl, rfl, (by decide +kernel)⟩⟩
theorem flX_414 : am_flok "MilkHorse" (414, 0, 0, true, false) := ⟨(R_0, F_0, 3), rfl, rfl, by decide, rfl, Or.inr ⟨rfl, am_n2 (i := 58) rfl rfl⟩, fun h => absurd h (by decide)⟩
theorem flX_416 : am_flok "MilkHorse" (416, 9, 3, true, false) := ⟨(R_9, F_9, 17), rfl, rfl, by decide, rfl, Or.inr ⟨rfl, am_n1 (i := 148) rfl rfl⟩, fun h => absurd h (by decide)⟩
def flX : List (Nat × Nat × Nat × Bool × Bool) := [(14, 10, 0, false, false), (18, 10, 1, false, false), (21, 10, 2, false, false), (27, 10, 3, false, false), (34, 10, 4, false, false), (41, 10, 5, false, false), (45, 10, 6, false, false), (51, 10, 7, false, false), (58, 10, 8, false, false), (65, 10, 9, false, false), (69, 10, 10, false, false), (72, 10, 11, false, false), (78, 10, 12, false, false), (85, 10, 13, false, false), (89, 10, 14, false, false), (95, 10, 15, false, false), (99, 10, 16, false, true), (129, 4, 0, true, false), (132, 4, 1, true, false), (138, 4, 4, true, true), (141, 4, 5, true, true), (144, 4, 6, true, true), (158, 5, 3, true, true), (165, 5, 2, true, true), (168, 5, 0, true, false), (177, 2, 0, true, false), (180, 2, 1, true, false), (183, 2, 2, true, false), (186, 2, 3, true, false), (189, 2, 4, true, true), (192, 2, 5, true, true), (195, 1, 4, true, true), (212, 9, 13, true, true), (225, 1, 1, true, true), (228, 7, 3, true, true), (232, 7, 0, true, true), (235, 7, 1, true, true), (238, 7, 2, true, true), (243, 3, 3, true, true), (244, 4, 7, true, true), (263, 0, 2, true, true), (293, 5, 1, true, true), (309, 4, 3, true, true), (312, 8, 4, true, true), (319, 6, 2, true, true), (395, 4, 2, true, false), (397, 2, 6, true, true), (409, 9, 15, true, true), (414, 0, 0, true, false), (416, 9, 3, true, false)]
theorem flX_ok : ∀ q ∈ flX, am_flok "MilkHorse" q := (List.forall_mem_cons.mpr ⟨flX_14, (List.forall_mem_cons.mpr ⟨flX_18, (List.forall_mem_cons.mpr ⟨flX_21, (List.forall_mem_cons.mpr ⟨flX_27, (List.forall_mem_cons.mpr ⟨flX_34, (List.forall_mem_cons.mpr ⟨flX_41, (List.forall_mem_cons.mpr ⟨flX_45, (List.forall_mem_cons.mpr ⟨flX_51, (List.forall_mem_cons.mpr ⟨flX_58, (List.forall_mem_cons.mpr ⟨flX_65, (List.forall_mem_cons.mpr ⟨flX_69, (List.forall_mem_cons.mpr ⟨flX_72, (List.forall_mem_cons.mpr ⟨flX_78, (List.forall_mem_cons.mpr ⟨flX_85, (List.forall_mem_cons.mpr ⟨flX_89, (List.forall_mem_cons.mpr ⟨flX_95, (List.forall_mem_cons.mpr ⟨flX_99, (List.forall_mem_cons.mpr ⟨flX_129, (List.forall_mem_cons.mpr ⟨flX_132, (List.forall_mem_cons.mpr ⟨flX_138, (List.forall_mem_cons.mpr ⟨flX_141, (List.forall_mem_cons.mpr ⟨flX_144, (List.forall_mem_cons.mpr ⟨flX_158, (List.forall_mem_cons.mpr ⟨flX_165, (List.forall_mem_cons.mpr ⟨flX_168, (List.forall_mem_cons.mpr ⟨flX_177, (List.forall_mem_cons.mpr ⟨flX_180, (List.forall_mem_cons.mpr ⟨flX_183, (List.forall_mem_cons.mpr ⟨flX_186, (List.forall_mem_cons.mpr ⟨flX_189, (List.forall_mem_cons.mpr ⟨flX_192, (List.forall_mem_cons.mpr ⟨flX_195, (List.forall_mem_cons.mpr ⟨flX_212, (List.forall_mem_cons.mpr ⟨flX_225, (List.forall_mem_cons.mpr ⟨flX_228, (List.forall_mem_cons.mpr ⟨flX_232, (List.forall_mem_cons.mpr ⟨flX_235, (List.forall_mem_cons.mpr ⟨flX_238, (List.forall_mem_cons.mpr ⟨flX_243, (List.forall_mem_cons.mpr ⟨flX_244, (List.forall_mem_cons.mpr ⟨flX_263, (List.forall_mem_cons.mpr ⟨flX_293, (List.forall_mem_cons.mpr ⟨flX_309, (List.forall_mem_cons.mpr ⟨flX_312, (List.forall_mem_cons.mpr ⟨flX_319, (List.forall_mem_cons.mpr ⟨flX_395, (List.forall_mem_cons.mpr ⟨flX_397, (List.forall_mem_cons.mpr ⟨flX_409, (List.forall_mem_cons.mpr ⟨flX_414, (List.forall_mem_cons.mpr ⟨flX_416, (fun _ h => absurd h List.not_mem_nil)⟩)⟩)⟩)⟩)⟩)⟩)⟩)⟩)⟩)⟩)⟩)⟩)⟩)⟩)⟩)⟩)⟩)⟩)⟩)⟩)⟩)⟩)⟩)⟩)⟩)⟩)⟩)⟩)⟩)⟩)⟩)⟩)⟩)⟩)⟩)⟩)⟩)⟩)⟩)⟩)⟩)⟩)⟩)⟩)⟩)⟩)⟩)⟩)⟩)⟩)
def kiX : List (Nat × Int32) := [(273, 1103515245), (289, (-2147483648))]
theorem kiX_ok : ∀ q ∈ kiX, Cond.constant "MilkHorse" q.1 q.2 ∈ am_tbl := (List.forall_mem_cons.mpr ⟨am_m4 (i := 4) rfl rfl, (List.forall_mem_cons.mpr ⟨am_m4 (i := 37) rfl rfl, (fun _ h => absurd h List.not_mem_nil)⟩)⟩)
def klX : List (Nat × Int64) := [(261, (-9223372036854775806)), (271, 2), (320, 17), (333, 31)]
theorem klX_ok : ∀ q ∈ klX, Cond.constantLong "MilkHorse" q.1 q.2 ∈ am_tbl := (List.forall_mem_cons.mpr ⟨am_m3 (i := 226) rfl rfl, (List.forall_mem_cons.mpr ⟨am_m3 (i := 239) rfl rfl, (List.forall_mem_cons.mpr ⟨am_m4 (i := 65) rfl rfl, (List.forall_mem_cons.mpr ⟨am_m4 (i := 70) rfl rfl, (fun _ h => absurd h List.not_mem_nil)⟩)⟩)⟩)⟩)
theorem inX : Cond.initialized "MilkHorse" ∈ am_tbl := am_m1 (i := 1) rfl rfl
theorem flM_7 : am_flok "MilkHorseModel" (7, 11, 0, false, false) := ⟨(R_11, F_11, 52), rfl, rfl, by decide, rfl, Or.inl ⟨rfl, am_m4 (i := 104) rfl rfl⟩, fun h => absurd h (by decide)⟩
theorem flM_13 : am_flok "MilkHorseModel" (13, 11, 1, false, false) := ⟨(R_11, F_11, 52), rfl, rfl, by decide, rfl, Or.inl ⟨rfl, am_m4 (i := 105) rfl rfl⟩, fun h => absurd h (by decide)⟩
theorem flM_16 : am_flok "MilkHorseModel" (16, 11, 2, false, false) := ⟨(R_11, F_11, 52), rfl, rfl, by decide, rfl, Or.inl ⟨rfl, am_m4 (i := 106) rfl rfl⟩, fun h => absurd h (by decide)⟩
theorem flM_19 : am_flok "MilkHorseModel" (19, 11, 3, false, false) := ⟨(R_11, F_11, 52), rfl, rfl, by decide, rfl, Or.inl ⟨rfl, am_m4 (i := 107) rfl rfl⟩, fun h => absurd h (by decide)⟩
theorem flM_22 : am_flok "MilkHorseModel" (22, 11, 5, false, false) := ⟨(R_11, F_11, 52), rfl, rfl, by decide, rfl, Or.inl ⟨rfl, am_m4 (i := 109) rfl rfl⟩, fun h => absurd h (by decide)⟩
theorem flM_25 : am_flok "MilkHorseModel" (25, 11, 6, false, false) := ⟨(R_11, F_11, 52), rfl, rfl, by decide, rfl, Or.inl ⟨rfl, am_m4 (i := 110) rfl rfl⟩, fun h => absurd h (by decide)⟩
theorem flM_28 : am_flok "MilkHorseModel" (28, 11, 8, false, false) := ⟨(R_11, F_11, 52), rfl, rfl, by decide, rfl, Or.inl ⟨rfl, am_m4 (i := 112) rfl rfl⟩, fun h => absurd h (by decide)⟩
theorem flM_31 : am_flok "MilkHorseModel" (31, 11, 9, false, false) := ⟨(R_11, F_11, 52), rfl, rfl, by decide, rfl, Or.inl ⟨rfl, am_m4 (i := 113) rfl rfl⟩, fun h => absurd h (by decide)⟩
theorem flM_34 : am_flok "MilkHorseModel" (34, 11, 10, false, false) := ⟨(R_11, F_11, 52), rfl, rfl, by decide, rfl, Or.inl ⟨rfl, am_m4 (i := 114) rfl rfl⟩, fun h => absurd h (by decide)⟩
theorem flM_37 : am_flok "MilkHorseModel" (37, 11, 11, false, false) := ⟨(R_11, F_11, 52), rfl, rfl, by decide, rfl, Or.inl ⟨rfl, am_m4 (i := 115) rfl rfl⟩, fun h => absurd h (by decide)⟩
theorem flM_40 : am_flok "MilkHorseModel" (40, 11, 12, false, false) := ⟨(R_11, F_11, 52), rfl, rfl, by decide, rfl, Or.inl ⟨rfl, am_m4 (i := 116) rfl rfl⟩, fun h => absurd h (by decide)⟩
theorem flM_43 : am_flok "MilkHorseModel" (43, 11, 29, false, false) := ⟨(R_11, F_11, 52), rfl, rfl, by decide, rfl, Or.inl ⟨rfl, am_m4 (i := 133) rfl rfl⟩, fun h => absurd h (by decide)⟩
theorem flM_46 : am_flok "MilkHorseModel" (46, 11, 30, false, false) := ⟨(R_11, F_11, 52), rfl, rfl, by decide, rfl, Or.inl ⟨rfl, am_m4 (i := 134) rfl rfl⟩, fun h => absurd h (by decide)⟩
theorem flM_49 : am_flok "MilkHorseModel" (49, 11, 31, false, false) := ⟨(R_11, F_11, 52), rfl, rfl, by decide, rfl, Or.inl ⟨rfl, am_m4 (i := 135) rfl rfl⟩, fun h => absurd h (by decide)⟩
theorem flM_52 : am_flok "MilkHorseModel" (52, 11, 32, false, false) := ⟨(R_11, F_11, 52), rfl, rfl, by decide, rfl, Or.inl ⟨rfl, am_m4 (i := 136) rfl rfl⟩, fun h => absurd h (by decide)⟩
theorem flM_55 : am_flok "MilkHorseModel" (55, 11, 33, false, false) := ⟨(R_11, F_11, 52), rfl, rfl, by decide, rfl, Or.inl ⟨rfl, am_m4 (i := 137) rfl rfl⟩, fun h => absurd h (by decide)⟩
theorem flM_58 : am_flok "MilkHorseModel" (58, 11, 34, false, false) := ⟨(R_11, F_11, 52), rfl, rfl, by decide, rfl, Or.inl ⟨rfl, am_m4 (i := 138) rfl rfl⟩, fun h => absurd h (by decide)⟩
theorem flM_61 : am_flok "MilkHorseModel" (61, 11, 35, false, false) := ⟨(R_11, F_11, 52), rfl, rfl, by decide, rfl, Or.inl ⟨rfl, am_m4 (i := 139) rfl rfl⟩, fun h => absurd h (by decide)⟩
theorem flM_64 : am_flok "MilkHorseModel" (64, 11, 36, false, false) := ⟨(R_11, F_11, 52), rfl, rfl, by decide, rfl, Or.inl ⟨rfl, am_m4 (i := 140) rfl rfl⟩, fun h => absurd h (by decide)⟩
theorem flM_67 : am_flok "MilkHorseModel" (67, 11, 37, false, false) := ⟨(R_11, F_11, 52), rfl, rfl, by decide, rfl, Or.inl ⟨rfl, am_m4 (i := 141) rfl rfl⟩, fun h => absurd h (by decide)⟩
theorem flM_70 : am_flok "MilkHorseModel" (70, 11, 41, false, false) := ⟨(R_11, F_11, 52), rfl, rfl, by decide, rfl, Or.inl ⟨rfl, am_m4 (i := 145) rfl rfl⟩, fun h => absurd h (by decide)⟩
theorem flM_73 : am_flok "MilkHorseModel" (73, 11, 43, false, false) := ⟨(R_11, F_11, 52), rfl, rfl, by decide, rfl, Or.inl ⟨rfl, am_m4 (i := 147) rfl rfl⟩, fun h => absurd h (by decide)⟩
theorem flM_76 : am_flok "MilkHorseModel" (76, 11, 44, false, false) := ⟨(R_11, F_11, 52), rfl, rfl, by decide, rfl, Or.inl ⟨rfl, am_m4 (i := 148) rfl rfl⟩, fun h => absurd h (by decide)⟩
theorem flM_79 : am_flok "MilkHorseModel" (79, 11, 45, false, false) := ⟨(R_11, F_11, 52), rfl, rfl, by decide, rfl, Or.inl ⟨rfl, am_m4 (i := 149) rfl rfl⟩, fun h => absurd h (by decide)⟩
theorem flM_82 : am_flok "MilkHorseModel" (82, 11, 46, false, false) := ⟨(R_11, F_11, 52), rfl, rfl, by decide, rfl, Or.inl ⟨rfl, am_m4 (i := 150) rfl rfl⟩, fun h => absurd h (by decide)⟩
theorem flM_86 : am_flok "MilkHorseModel" (86, 11, 47, false, false) := ⟨(R_11, F_11, 52), rfl, rfl, by decide, rfl, Or.inl ⟨rfl, am_m4 (i := 151) rfl rfl⟩, fun h => absurd h (by decide)⟩
theorem flM_89 : am_flok "MilkHorseModel" (89, 11, 48, false, false) := ⟨(R_11, F_11, 52), rfl, rfl, by decide, rfl, Or.inl ⟨rfl, am_m4 (i := 152) rfl rfl⟩, fun h => absurd h (by decide)⟩
theorem flM_92 : am_flok "MilkHorseModel" (92, 11, 49, false, false) := ⟨(R_11, F_11, 52), rfl, rfl, by decide, rfl, Or.inl ⟨rfl, am_m4 (i := 153) rfl rfl⟩, fun h => absurd h (by decide)⟩
theorem flM_95 : am_flok "MilkHorseModel" (95, 11, 50, false, false) := ⟨(R_11, F_11, 52), rfl, rfl, by decide, rfl, Or.inl ⟨rfl, am_m4 (i := 154) rfl rfl⟩, fun h => absurd h (by decide)⟩
theorem flM_112 : am_flok "MilkHorseModel" (112, 11, 4, false, true) := ⟨(R_11, F_11, 52), rfl, rfl, by decide, rfl, Or.inl ⟨rfl, am_m4 (i := 108) rfl rfl⟩, fun _ => ⟨rfl, rfl, (by decide +kernel)⟩⟩
theorem flM_138 : am_flok "MilkHorseModel" (138, 11, 7, false, true) := ⟨(R_11, F_11, 52), rfl, rfl, by decide, rfl, Or.inl ⟨rfl, am_m4 (i := 111) rfl rfl⟩, fun _ => ⟨rfl, rfl, (by decide +kernel)⟩⟩
theorem flM_151 : am_flok "MilkHorseModel" (151, 11, 13, false, true) := ⟨(R_11, F_11, 52), rfl, rfl, by decide, rfl, Or.inl ⟨rfl, am_m4 (i := 117) rfl rfl⟩, fun _ => ⟨rfl, rfl, (by decide +kernel)⟩⟩
theorem flM_154 : am_flok "MilkHorseModel" (154, 11, 14, false, true) := ⟨(R_11, F_11, 52), rfl, rfl, by decide, rfl, Or.inl ⟨rfl, am_m4 (i := 118) rfl rfl⟩, fun _ => ⟨rfl, rfl, (by decide +kernel)⟩⟩
theorem flM_157 : am_flok "MilkHorseModel" (157, 11, 15, false, true) := ⟨(R_11, F_11, 52), rfl, rfl, by decide, rfl, Or.inl ⟨rfl, am_m4 (i := 119) rfl rfl⟩, fun _ => ⟨rfl, rfl, (by decide +kernel)⟩⟩
theorem flM_160 : am_flok "MilkHorseModel" (160, 11, 23, false, true) := ⟨(R_11, F_11, 52), rfl, rfl, by decide, rfl, Or.inl ⟨rfl, am_m4 (i := 127) rfl rfl⟩, fun _ => ⟨rfl, rfl, (by decide +kernel)⟩⟩
theorem flM_167 : am_flok "MilkHorseModel" (167, 11, 17, false, true) := ⟨(R_11, F_11, 52), rfl, rfl, by decide, rfl, Or.inl ⟨rfl, am_m4 (i := 121) rfl rfl⟩, fun _ => ⟨rfl, rfl, (by decide +kernel)⟩⟩
theorem flM_170 : am_flok "MilkHorseModel" (170, 11, 16, false, true) := ⟨(R_11, F_11, 52), rfl, rfl, by decide, rfl, Or.inl ⟨rfl, am_m4 (i := 120) rfl rfl⟩, fun _ => ⟨rfl, rfl, (by decide +kernel)⟩⟩
theorem flM_176 : am_flok "MilkHorseModel" (176, 11, 26, false, true) := ⟨(R_11, F_11, 52), rfl, rfl, by decide, rfl, Or.inl ⟨rfl, am_m4 (i := 130) rfl rfl⟩, fun _ => ⟨rfl, rfl, (by decide +kernel)⟩⟩
theorem flM_179 : am_flok "MilkHorseModel" (179, 11, 27, false, true) := ⟨(R_11, F_11, 52), rfl, rfl, by decide, rfl, Or.inl ⟨rfl, am_m4 (i := 131) rfl rfl⟩, fun _ => ⟨rfl, rfl, (by decide +kernel)⟩⟩
theorem flM_182 : am_flok "MilkHorseModel" (182, 11, 19, false, true) := ⟨(R_11, F_11, 52), rfl, rfl, by decide, rfl, Or.inl ⟨rfl, am_m4 (i := 123) rfl rfl⟩, fun _ => ⟨rfl, rfl, (by decide +kernel)⟩⟩
theorem flM_185 : am_flok "MilkHorseModel" (185, 11, 20, false, true) := ⟨(R_11, F_11, 52), rfl, rfl, by decide, rfl, Or.inl ⟨rfl, am_m4 (i := 124) rfl rfl⟩, fun _ => ⟨rfl, rfl, (by decide +kernel)⟩⟩
theorem flM_188 : am_flok "MilkHorseModel" (188, 11, 22, false, true) := ⟨(R_11, F_11, 52), rfl, rfl, by decide, rfl, Or.inl ⟨rfl, am_m4 (i := 126) rfl rfl⟩, fun _ => ⟨rfl, rfl, (by decide +kernel)⟩⟩
theorem flM_192 : am_flok "MilkHorseModel" (192, 11, 18, false, true) := ⟨(R_11, F_11, 52), rfl, rfl, by decide, rfl, Or.inl ⟨rfl, am_m4 (i := 122) rfl rfl⟩, fun _ => ⟨rfl, rfl, (by decide +kernel)⟩⟩
theorem flM_198 : am_flok "MilkHorseModel" (198, 11, 25, false, true) := ⟨(R_11, F_11, 52), rfl, rfl, by decide, rfl, Or.inl ⟨rfl, am_m4 (i := 129) rfl rfl⟩, fun _ => ⟨rfl, rfl, (by decide +kernel)⟩⟩
theorem flM_204 : am_flok "MilkHorseModel" (204, 11, 21, false, true) := ⟨(R_11, F_11, 52), rfl, rfl, by decide, rfl, Or.inl ⟨rfl, am_m4 (i := 125) rfl rfl⟩, fun _ => ⟨rfl, rfl, (by decide +kernel)⟩⟩
theorem flM_207 : am_flok "MilkHorseModel" (207, 11, 24, false, true) := ⟨(R_11, F_11, 52), rfl, rfl, by decide, rfl, Or.inl ⟨rfl, am_m4 (i := 128) rfl rfl⟩, fun _ => ⟨rfl, rfl, (by decide +kernel)⟩⟩
theorem flM_227 : am_flok "MilkHorseModel" (227, 11, 28, false, true) := ⟨(R_11, F_11, 52), rfl, rfl, by decide, rfl, Or.inl ⟨rfl, am_m4 (i := 132) rfl rfl⟩, fun _ => ⟨rfl, rfl, (by decide +kernel)⟩⟩
theorem flM_269 : am_flok "MilkHorseModel" (269, 11, 38, false, true) := ⟨(R_11, F_11, 52), rfl, rfl, by decide, rfl, Or.inl ⟨rfl, am_m4 (i := 142) rfl rfl⟩, fun _ => ⟨rfl, rfl, (by decide +kernel)⟩⟩
theorem flM_272 : am_flok "MilkHorseModel" (272, 11, 39, false, true) := ⟨(R_11, F_11, 52), rfl, rfl, by decide, rfl, Or.inl ⟨rfl, am_m4 (i := 143) rfl rfl⟩, fun _ => ⟨rfl, rfl, (by decide +kernel)⟩⟩
theorem flM_275 : am_flok "MilkHorseModel" (275, 11, 40, false, true) := ⟨(R_11, F_11, 52), rfl, rfl, by decide, rfl, Or.inl ⟨rfl, am_m4 (i := 144) rfl rfl⟩, fun _ => ⟨rfl, rfl, (by decide +kernel)⟩⟩
theorem flM_305 : am_flok "MilkHorseModel" (305, 11, 42, false, true) := ⟨(R_11, F_11, 52), rfl, rfl, by decide, rfl, Or.inl ⟨rfl, am_m4 (i := 146) rfl rfl⟩, fun _ => ⟨rfl, rfl, (by decide +kernel)⟩⟩
theorem flM_343 : am_flok "MilkHorseModel" (343, 11, 51, false, true) := ⟨(R_11, F_11, 52), rfl, rfl, by decide, rfl, Or.inl ⟨rfl, am_m4 (i := 155) rfl rfl⟩, fun _ => ⟨rfl, rfl, (by decide +kernel)⟩⟩
def flM : List (Nat × Nat × Nat × Bool × Bool) := [(7, 11, 0, false, false), (13, 11, 1, false, false), (16, 11, 2, false, false), (19, 11, 3, false, false), (22, 11, 5, false, false), (25, 11, 6, false, false), (28, 11, 8, false, false), (31, 11, 9, false, false), (34, 11, 10, false, false), (37, 11, 11, false, false), (40, 11, 12, false, false), (43, 11, 29, false, false), (46, 11, 30, false, false), (49, 11, 31, false, false), (52, 11, 32, false, false), (55, 11, 33, false, false), (58, 11, 34, false, false), (61, 11, 35, false, false), (64, 11, 36, false, false), (67, 11, 37, false, false), (70, 11, 41, false, false), (73, 11, 43, false, false), (76, 11, 44, false, false), (79, 11, 45, false, false), (82, 11, 46, false, false), (86, 11, 47, false, false), (89, 11, 48, false, false), (92, 11, 49, false, false), (95, 11, 50, false, false), (112, 11, 4, false, true), (138, 11, 7, false, true), (151, 11, 13, false, true), (154, 11, 14, false, true), (157, 11, 15, false, true), (160, 11, 23, false, true), (167, 11, 17, false, true), (170, 11, 16, false, true), (176, 11, 26, false, true), (179, 11, 27, false, true), (182, 11, 19, false, true), (185, 11, 20, false, true), (188, 11, 22, false, true), (192, 11, 18, false, true), (198, 11, 25, false, true), (204, 11, 21, false, true), (207, 11, 24, false, true), (227, 11, 28, false, true), (269, 11, 38, false, true), (272, 11, 39, false, true), (275, 11, 40, false, true), (305, 11, 42, false, true), (343, 11, 51, false, true)]
theorem flM_ok : ∀ q ∈ flM, am_flok "MilkHorseModel" q := (List.forall_mem_cons.mpr ⟨flM_7, (List.forall_mem_cons.mpr ⟨flM_13, (List.forall_mem_cons.mpr ⟨flM_16, (List.forall_mem_cons.mpr ⟨flM_19, (List.forall_mem_cons.mpr ⟨flM_22, (List.forall_mem_cons.mpr ⟨flM_25, (List.forall_mem_cons.mpr ⟨flM_28, (List.forall_mem_cons.mpr ⟨flM_31, (List.forall_mem_cons.mpr ⟨flM_34, (List.forall_mem_cons.mpr ⟨flM_37, (List.forall_mem_cons.mpr ⟨flM_40, (List.forall_mem_cons.mpr ⟨flM_43, (List.forall_mem_cons.mpr ⟨flM_46, (List.forall_mem_cons.mpr ⟨flM_49, (List.forall_mem_cons.mpr ⟨flM_52, (List.forall_mem_cons.mpr ⟨flM_55, (List.forall_mem_cons.mpr ⟨flM_58, (List.forall_mem_cons.mpr ⟨flM_61, (List.forall_mem_cons.mpr ⟨flM_64, (List.forall_mem_cons.mpr ⟨flM_67, (List.forall_mem_cons.mpr ⟨flM_70, (List.forall_mem_cons.mpr ⟨flM_73, (List.forall_mem_cons.mpr ⟨flM_76, (List.forall_mem_cons.mpr ⟨flM_79, (List.forall_mem_cons.mpr ⟨flM_82, (List.forall_mem_cons.mpr ⟨flM_86, (List.forall_mem_cons.mpr ⟨flM_89, (List.forall_mem_cons.mpr ⟨flM_92, (List.forall_mem_cons.mpr ⟨flM_95, (List.forall_mem_cons.mpr ⟨flM_112, (List.forall_mem_cons.mpr ⟨flM_138, (List.forall_mem_cons.mpr ⟨flM_151, (List.forall_mem_cons.mpr ⟨flM_154, (List.forall_mem_cons.mpr ⟨flM_157, (List.forall_mem_cons.mpr ⟨flM_160, (List.forall_mem_cons.mpr ⟨flM_167, (List.forall_mem_cons.mpr ⟨flM_170, (List.forall_mem_cons.mpr ⟨flM_176, (List.forall_mem_cons.mpr ⟨flM_179, (List.forall_mem_cons.mpr ⟨flM_182, (List.forall_mem_cons.mpr ⟨flM_185, (List.forall_mem_cons.mpr ⟨flM_188, (List.forall_mem_cons.mpr ⟨flM_192, (List.forall_mem_cons.mpr ⟨flM_198, (List.forall_mem_cons.mpr ⟨flM_204, (List.forall_mem_cons.mpr ⟨flM_207, (List.forall_mem_cons.mpr ⟨flM_227, (List.forall_mem_cons.mpr ⟨flM_269, (List.forall_mem_cons.mpr ⟨flM_272, (List.forall_mem_cons.mpr ⟨flM_275, (List.forall_mem_cons.mpr ⟨flM_305, (List.forall_mem_cons.mpr ⟨flM_343, (fun _ h => absurd h List.not_mem_nil)⟩)⟩)⟩)⟩)⟩)⟩)⟩)⟩)⟩)⟩)⟩)⟩)⟩)⟩)⟩)⟩)⟩)⟩)⟩)⟩)⟩)⟩)⟩)⟩)⟩)⟩)⟩)⟩)⟩)⟩)⟩)⟩)⟩)⟩)⟩)⟩)⟩)⟩)⟩)⟩)⟩)⟩)⟩)⟩)⟩)⟩)⟩)⟩)⟩)⟩)⟩)⟩)
def kiM : List (Nat × Int32) := [(339, 1103515245), (353, (-2147483648))]
theorem kiM_ok : ∀ q ∈ kiM, Cond.constant "MilkHorseModel" q.1 q.2 ∈ am_tbl := (List.forall_mem_cons.mpr ⟨am_m6 (i := 96) rfl rfl, (List.forall_mem_cons.mpr ⟨am_m6 (i := 121) rfl rfl, (fun _ h => absurd h List.not_mem_nil)⟩)⟩)
def klM : List (Nat × Int64) := [(98, (-9223372036854775808)), (360, 31), (362, 17)]
theorem klM_ok : ∀ q ∈ klM, Cond.constantLong "MilkHorseModel" q.1 q.2 ∈ am_tbl := (List.forall_mem_cons.mpr ⟨am_m6 (i := 87) rfl rfl, (List.forall_mem_cons.mpr ⟨am_m6 (i := 147) rfl rfl, (List.forall_mem_cons.mpr ⟨am_m6 (i := 146) rfl rfl, (fun _ h => absurd h List.not_mem_nil)⟩)⟩)⟩)
theorem inM : Cond.initialized "MilkHorseModel" ∈ am_tbl := am_m1 (i := 12) rfl rfl
theorem flH_9 : am_flok "MilkHorse$Chances" (9, 0, 0, false, false) := ⟨(R_0, F_0, 3), rfl, rfl, by decide, rfl, Or.inl ⟨rfl, am_m2 (i := 57) rfl rfl⟩, fun h => absurd h (by decide)⟩
theorem flH_15 : am_flok "MilkHorse$Chances" (15, 0, 1, false, false) := ⟨(R_0, F_0, 3), rfl, rfl, by decide, rfl, Or.inl ⟨rfl, am_m2 (i := 59) rfl rfl⟩, fun h => absurd h (by decide)⟩
theorem flH_19 : am_flok "MilkHorse$Chances" (19, 0, 2, false, true) := ⟨(R_0, F_0, 3), rfl, rfl, by decide, rfl, Or.inl ⟨rfl, am_m2 (i := 60) rfl rfl⟩, fun _ => ⟨rfl, rfl, (by decide +kernel)⟩⟩
def flH : List (Nat × Nat × Nat × Bool × Bool) := [(9, 0, 0, false, false), (15, 0, 1, false, false), (19, 0, 2, false, true)]
theorem flH_ok : ∀ q ∈ flH, am_flok "MilkHorse$Chances" q := (List.forall_mem_cons.mpr ⟨flH_9, (List.forall_mem_cons.mpr ⟨flH_15, (List.forall_mem_cons.mpr ⟨flH_19, (fun _ h => absurd h List.not_mem_nil)⟩)⟩)⟩)
def kiH : List (Nat × Int32) := []
theorem kiH_ok : ∀ q ∈ kiH, Cond.constant "MilkHorse$Chances" q.1 q.2 ∈ am_tbl := (fun _ h => absurd h List.not_mem_nil)
def klH : List (Nat × Int64) := []
theorem klH_ok : ∀ q ∈ klH, Cond.constantLong "MilkHorse$Chances" q.1 q.2 ∈ am_tbl := (fun _ h => absurd h List.not_mem_nil)
theorem inH : Cond.initialized "MilkHorse$Chances" ∈ am_tbl := am_m1 (i := 10) rfl rfl
theorem flO_9 : am_flok "MilkHorse$Choice" (9, 1, 0, false, true) := ⟨(R_1, F_1, 5), rfl, rfl, by decide, rfl, Or.inl ⟨rfl, am_m2 (i := 10) rfl rfl⟩, fun _ => ⟨rfl, rfl, (by decide +kernel)⟩⟩
theorem flO_15 : am_flok "MilkHorse$Choice" (15, 1, 1, false, true) := ⟨(R_1, F_1, 5), rfl, rfl, by decide, rfl, Or.inl ⟨rfl, am_m2 (i := 11) rfl rfl⟩, fun _ => ⟨rfl, rfl, (by decide +kernel)⟩⟩
theorem flO_18 : am_flok "MilkHorse$Choice" (18, 1, 2, false, true) := ⟨(R_1, F_1, 5), rfl, rfl, by decide, rfl, Or.inl ⟨rfl, am_m2 (i := 13) rfl rfl⟩, fun _ => ⟨rfl, rfl, (by decide +kernel)⟩⟩
theorem flO_21 : am_flok "MilkHorse$Choice" (21, 1, 3, false, true) := ⟨(R_1, F_1, 5), rfl, rfl, by decide, rfl, Or.inl ⟨rfl, am_m2 (i := 14) rfl rfl⟩, fun _ => ⟨rfl, rfl, (by decide +kernel)⟩⟩
theorem flO_24 : am_flok "MilkHorse$Choice" (24, 1, 4, false, true) := ⟨(R_1, F_1, 5), rfl, rfl, by decide, rfl, Or.inl ⟨rfl, am_m2 (i := 15) rfl rfl⟩, fun _ => ⟨rfl, rfl, (by decide +kernel)⟩⟩
def flO : List (Nat × Nat × Nat × Bool × Bool) := [(9, 1, 0, false, true), (15, 1, 1, false, true), (18, 1, 2, false, true), (21, 1, 3, false, true), (24, 1, 4, false, true)]
theorem flO_ok : ∀ q ∈ flO, am_flok "MilkHorse$Choice" q := (List.forall_mem_cons.mpr ⟨flO_9, (List.forall_mem_cons.mpr ⟨flO_15, (List.forall_mem_cons.mpr ⟨flO_18, (List.forall_mem_cons.mpr ⟨flO_21, (List.forall_mem_cons.mpr ⟨flO_24, (fun _ h => absurd h List.not_mem_nil)⟩)⟩)⟩)⟩)⟩)
def kiO : List (Nat × Int32) := []
theorem kiO_ok : ∀ q ∈ kiO, Cond.constant "MilkHorse$Choice" q.1 q.2 ∈ am_tbl := (fun _ h => absurd h List.not_mem_nil)
def klO : List (Nat × Int64) := []
theorem klO_ok : ∀ q ∈ klO, Cond.constantLong "MilkHorse$Choice" q.1 q.2 ∈ am_tbl := (fun _ h => absurd h List.not_mem_nil)
theorem inO : Cond.initialized "MilkHorse$Choice" ∈ am_tbl := am_m1 (i := 8) rfl rfl
theorem flY_9 : am_flok "MilkHorse$Day" (9, 2, 0, false, false) := ⟨(R_2, F_2, 7), rfl, rfl, by decide, rfl, Or.inl ⟨rfl, am_m1 (i := 215) rfl rfl⟩, fun h => absurd h (by decide)⟩
theorem flY_15 : am_flok "MilkHorse$Day" (15, 2, 1, false, false) := ⟨(R_2, F_2, 7), rfl, rfl, by decide, rfl, Or.inl ⟨rfl, am_m1 (i := 217) rfl rfl⟩, fun h => absurd h (by decide)⟩
theorem flY_18 : am_flok "MilkHorse$Day" (18, 2, 2, false, false) := ⟨(R_2, F_2, 7), rfl, rfl, by decide, rfl, Or.inl ⟨rfl, am_m1 (i := 219) rfl rfl⟩, fun h => absurd h (by decide)⟩
theorem flY_21 : am_flok "MilkHorse$Day" (21, 2, 3, false, false) := ⟨(R_2, F_2, 7), rfl, rfl, by decide, rfl, Or.inl ⟨rfl, am_m1 (i := 221) rfl rfl⟩, fun h => absurd h (by decide)⟩
theorem flY_24 : am_flok "MilkHorse$Day" (24, 2, 4, false, true) := ⟨(R_2, F_2, 7), rfl, rfl, by decide, rfl, Or.inl ⟨rfl, am_m1 (i := 223) rfl rfl⟩, fun _ => ⟨rfl, rfl, (by decide +kernel)⟩⟩
theorem flY_28 : am_flok "MilkHorse$Day" (28, 2, 5, false, true) := ⟨(R_2, F_2, 7), rfl, rfl, by decide, rfl, Or.inl ⟨rfl, am_m1 (i := 225) rfl rfl⟩, fun _ => ⟨rfl, rfl, (by decide +kernel)⟩⟩
theorem flY_31 : am_flok "MilkHorse$Day" (31, 2, 6, false, true) := ⟨(R_2, F_2, 7), rfl, rfl, by decide, rfl, Or.inl ⟨rfl, am_m1 (i := 227) rfl rfl⟩, fun _ => ⟨rfl, rfl, (by decide +kernel)⟩⟩
theorem flY_45 : am_flok "MilkHorse$Day" (45, 9, 4, true, true) := ⟨(R_9, F_9, 17), rfl, rfl, by decide, rfl, Or.inr ⟨rfl, am_n1 (i := 150) rfl rfl⟩, fun _ => ⟨rfl, rfl, (by decide +kernel)⟩⟩
theorem flY_50 : am_flok "MilkHorse$Day" (50, 9, 5, true, true) := ⟨(R_9, F_9, 17), rfl, rfl, by decide, rfl, Or.inr ⟨rfl, am_n1 (i := 152) rfl rfl⟩, fun _ => ⟨rfl, rfl, (by decide +kernel)⟩⟩
theorem flY_53 : am_flok "MilkHorse$Day" (53, 9, 7, true, true) := ⟨(R_9, F_9, 17), rfl, rfl, by decide, rfl, Or.inr ⟨rfl, am_n1 (i := 156) rfl rfl⟩, fun _ => ⟨rfl, rfl, (by decide +kernel)⟩⟩
theorem flY_56 : am_flok "MilkHorse$Day" (56, 9, 8, true, true) := ⟨(R_9, F_9, 17), rfl, rfl, by decide, rfl, Or.inr ⟨rfl, am_n1 (i := 158) rfl rfl⟩, fun _ => ⟨rfl, rfl, (by decide +kernel)⟩⟩
theorem flY_59 : am_flok "MilkHorse$Day" (59, 9, 12, true, true) := ⟨(R_9, F_9, 17), rfl, rfl, by decide, rfl, Or.inr ⟨rfl, am_n1 (i := 162) rfl rfl⟩, fun _ => ⟨rfl, rfl, (by decide +kernel)⟩⟩
theorem flY_62 : am_flok "MilkHorse$Day" (62, 9, 0, true, false) := ⟨(R_9, F_9, 17), rfl, rfl, by decide, rfl, Or.inr ⟨rfl, am_n1 (i := 142) rfl rfl⟩, fun h => absurd h (by decide)⟩
theorem flY_65 : am_flok "MilkHorse$Day" (65, 9, 1, true, false) := ⟨(R_9, F_9, 17), rfl, rfl, by decide, rfl, Or.inr ⟨rfl, am_n1 (i := 144) rfl rfl⟩, fun h => absurd h (by decide)⟩
theorem flY_68 : am_flok "MilkHorse$Day" (68, 9, 2, true, false) := ⟨(R_9, F_9, 17), rfl, rfl, by decide, rfl, Or.inr ⟨rfl, am_n1 (i := 146) rfl rfl⟩, fun h => absurd h (by decide)⟩
theorem flY_71 : am_flok "MilkHorse$Day" (71, 9, 13, true, true) := ⟨(R_9, F_9, 17), rfl, rfl, by decide, rfl, Or.inr ⟨rfl, am_n1 (i := 165) rfl rfl⟩, fun _ => ⟨rfl, rfl, (by decide +kernel)⟩⟩
theorem flY_74 : am_flok "MilkHorse$Day" (74, 9, 14, true, true) := ⟨(R_9, F_9, 17), rfl, rfl, by decide, rfl, Or.inr ⟨rfl, am_n1 (i := 168) rfl rfl⟩, fun _ => ⟨rfl, rfl, (by decide +kernel)⟩⟩
theorem flY_77 : am_flok "MilkHorse$Day" (77, 9, 15, true, true) := ⟨(R_9, F_9, 17), rfl, rfl, by decide, rfl, Or.inr ⟨rfl, am_n1 (i := 170) rfl rfl⟩, fun _ => ⟨rfl, rfl, (by decide +kernel)⟩⟩
theorem flY_80 : am_flok "MilkHorse$Day" (80, 9, 16, true, true) := ⟨(R_9, F_9, 17), rfl, rfl, by decide, rfl, Or.inr ⟨rfl, am_n1 (i := 173) rfl rfl⟩, fun _ => ⟨rfl, rfl, (by decide +kernel)⟩⟩
theorem flY_83 : am_flok "MilkHorse$Day" (83, 9, 6, true, true) := ⟨(R_9, F_9, 17), rfl, rfl, by decide, rfl, Or.inr ⟨rfl, am_n1 (i := 154) rfl rfl⟩, fun _ => ⟨rfl, rfl, (by decide +kernel)⟩⟩
def flY : List (Nat × Nat × Nat × Bool × Bool) := [(9, 2, 0, false, false), (15, 2, 1, false, false), (18, 2, 2, false, false), (21, 2, 3, false, false), (24, 2, 4, false, true), (28, 2, 5, false, true), (31, 2, 6, false, true), (45, 9, 4, true, true), (50, 9, 5, true, true), (53, 9, 7, true, true), (56, 9, 8, true, true), (59, 9, 12, true, true), (62, 9, 0, true, false), (65, 9, 1, true, false), (68, 9, 2, true, false), (71, 9, 13, true, true), (74, 9, 14, true, true), (77, 9, 15, true, true), (80, 9, 16, true, true), (83, 9, 6, true, true)]
theorem flY_ok : ∀ q ∈ flY, am_flok "MilkHorse$Day" q := (List.forall_mem_cons.mpr ⟨flY_9, (List.forall_mem_cons.mpr ⟨flY_15, (List.forall_mem_cons.mpr ⟨flY_18, (List.forall_mem_cons.mpr ⟨flY_21, (List.forall_mem_cons.mpr ⟨flY_24, (List.forall_mem_cons.mpr ⟨flY_28, (List.forall_mem_cons.mpr ⟨flY_31, (List.forall_mem_cons.mpr ⟨flY_45, (List.forall_mem_cons.mpr ⟨flY_50, (List.forall_mem_cons.mpr ⟨flY_53, (List.forall_mem_cons.mpr ⟨flY_56, (List.forall_mem_cons.mpr ⟨flY_59, (List.forall_mem_cons.mpr ⟨flY_62, (List.forall_mem_cons.mpr ⟨flY_65, (List.forall_mem_cons.mpr ⟨flY_68, (List.forall_mem_cons.mpr ⟨flY_71, (List.forall_mem_cons.mpr ⟨flY_74, (List.forall_mem_cons.mpr ⟨flY_77, (List.forall_mem_cons.mpr ⟨flY_80, (List.forall_mem_cons.mpr ⟨flY_83, (fun _ h => absurd h List.not_mem_nil)⟩)⟩)⟩)⟩)⟩)⟩)⟩)⟩)⟩)⟩)⟩)⟩)⟩)⟩)⟩)⟩)⟩)⟩)⟩)⟩)
def kiY : List (Nat × Int32) := []
theorem kiY_ok : ∀ q ∈ kiY, Cond.constant "MilkHorse$Day" q.1 q.2 ∈ am_tbl := (fun _ h => absurd h List.not_mem_nil)
def klY : List (Nat × Int64) := []
theorem klY_ok : ∀ q ∈ klY, Cond.constantLong "MilkHorse$Day" q.1 q.2 ∈ am_tbl := (fun _ h => absurd h List.not_mem_nil)
theorem inY : Cond.initialized "MilkHorse$Day" ∈ am_tbl := am_m1 (i := 7) rfl rfl
theorem flE_9 : am_flok "MilkHorse$Events" (9, 3, 0, false, false) := ⟨(R_3, F_3, 4), rfl, rfl, by decide, rfl, Or.inl ⟨rfl, am_m1 (i := 55) rfl rfl⟩, fun h => absurd h (by decide)⟩
theorem flE_15 : am_flok "MilkHorse$Events" (15, 3, 1, false, false) := ⟨(R_3, F_3, 4), rfl, rfl, by decide, rfl, Or.inl ⟨rfl, am_m1 (i := 57) rfl rfl⟩, fun h => absurd h (by decide)⟩
theorem flE_18 : am_flok "MilkHorse$Events" (18, 3, 2, false, false) := ⟨(R_3, F_3, 4), rfl, rfl, by decide, rfl, Or.inl ⟨rfl, am_m1 (i := 59) rfl rfl⟩, fun h => absurd h (by decide)⟩
theorem flE_21 : am_flok "MilkHorse$Events" (21, 3, 3, false, true) := ⟨(R_3, F_3, 4), rfl, rfl, by decide, rfl, Or.inl ⟨rfl, am_m1 (i := 61) rfl rfl⟩, fun _ => ⟨rfl, rfl, (by decide +kernel)⟩⟩
def flE : List (Nat × Nat × Nat × Bool × Bool) := [(9, 3, 0, false, false), (15, 3, 1, false, false), (18, 3, 2, false, false), (21, 3, 3, false, true)]
theorem flE_ok : ∀ q ∈ flE, am_flok "MilkHorse$Events" q := (List.forall_mem_cons.mpr ⟨flE_9, (List.forall_mem_cons.mpr ⟨flE_15, (List.forall_mem_cons.mpr ⟨flE_18, (List.forall_mem_cons.mpr ⟨flE_21, (fun _ h => absurd h List.not_mem_nil)⟩)⟩)⟩)⟩)
def kiE : List (Nat × Int32) := []
theorem kiE_ok : ∀ q ∈ kiE, Cond.constant "MilkHorse$Events" q.1 q.2 ∈ am_tbl := (fun _ h => absurd h List.not_mem_nil)
def klE : List (Nat × Int64) := []
theorem klE_ok : ∀ q ∈ klE, Cond.constantLong "MilkHorse$Events" q.1 q.2 ∈ am_tbl := (fun _ h => absurd h List.not_mem_nil)
theorem inE : Cond.initialized "MilkHorse$Events" ∈ am_tbl := am_m1 (i := 3) rfl rfl
theorem flP_9 : am_flok "MilkHorse$Plan" (9, 4, 0, false, false) := ⟨(R_4, F_4, 8), rfl, rfl, by decide, rfl, Or.inl ⟨rfl, am_m1 (i := 96) rfl rfl⟩, fun h => absurd h (by decide)⟩
theorem flP_15 : am_flok "MilkHorse$Plan" (15, 4, 1, false, false) := ⟨(R_4, F_4, 8), rfl, rfl, by decide, rfl, Or.inl ⟨rfl, am_m1 (i := 99) rfl rfl⟩, fun h => absurd h (by decide)⟩
theorem flP_18 : am_flok "MilkHorse$Plan" (18, 4, 2, false, false) := ⟨(R_4, F_4, 8), rfl, rfl, by decide, rfl, Or.inl ⟨rfl, am_m1 (i := 102) rfl rfl⟩, fun h => absurd h (by decide)⟩
theorem flP_21 : am_flok "MilkHorse$Plan" (21, 4, 3, false, true) := ⟨(R_4, F_4, 8), rfl, rfl, by decide, rfl, Or.inl ⟨rfl, am_m1 (i := 104) rfl rfl⟩, fun _ => ⟨rfl, rfl, (by decide +kernel)⟩⟩
theorem flP_25 : am_flok "MilkHorse$Plan" (25, 4, 4, false, true) := ⟨(R_4, F_4, 8), rfl, rfl, by decide, rfl, Or.inl ⟨rfl, am_m1 (i := 106) rfl rfl⟩, fun _ => ⟨rfl, rfl, (by decide +kernel)⟩⟩
theorem flP_28 : am_flok "MilkHorse$Plan" (28, 4, 5, false, true) := ⟨(R_4, F_4, 8), rfl, rfl, by decide, rfl, Or.inl ⟨rfl, am_m1 (i := 109) rfl rfl⟩, fun _ => ⟨rfl, rfl, (by decide +kernel)⟩⟩
theorem flP_31 : am_flok "MilkHorse$Plan" (31, 4, 6, false, true) := ⟨(R_4, F_4, 8), rfl, rfl, by decide, rfl, Or.inl ⟨rfl, am_m1 (i := 112) rfl rfl⟩, fun _ => ⟨rfl, rfl, (by decide +kernel)⟩⟩
theorem flP_34 : am_flok "MilkHorse$Plan" (34, 4, 7, false, true) := ⟨(R_4, F_4, 8), rfl, rfl, by decide, rfl, Or.inl ⟨rfl, am_m1 (i := 115) rfl rfl⟩, fun _ => ⟨rfl, rfl, (by decide +kernel)⟩⟩
def flP : List (Nat × Nat × Nat × Bool × Bool) := [(9, 4, 0, false, false), (15, 4, 1, false, false), (18, 4, 2, false, false), (21, 4, 3, false, true), (25, 4, 4, false, true), (28, 4, 5, false, true), (31, 4, 6, false, true), (34, 4, 7, false, true)]
theorem flP_ok : ∀ q ∈ flP, am_flok "MilkHorse$Plan" q := (List.forall_mem_cons.mpr ⟨flP_9, (List.forall_mem_cons.mpr ⟨flP_15, (List.forall_mem_cons.mpr ⟨flP_18, (List.forall_mem_cons.mpr ⟨flP_21, (List.forall_mem_cons.mpr ⟨flP_25, (List.forall_mem_cons.mpr ⟨flP_28, (List.forall_mem_cons.mpr ⟨flP_31, (List.forall_mem_cons.mpr ⟨flP_34, (fun _ h => absurd h List.not_mem_nil)⟩)⟩)⟩)⟩)⟩)⟩)⟩)⟩)
def kiP : List (Nat × Int32) := []
theorem kiP_ok : ∀ q ∈ kiP, Cond.constant "MilkHorse$Plan" q.1 q.2 ∈ am_tbl := (fun _ h => absurd h List.not_mem_nil)
def klP : List (Nat × Int64) := []
theorem klP_ok : ∀ q ∈ klP, Cond.constantLong "MilkHorse$Plan" q.1 q.2 ∈ am_tbl := (fun _ h => absurd h List.not_mem_nil)
theorem inP : Cond.initialized "MilkHorse$Plan" ∈ am_tbl := am_m1 (i := 5) rfl rfl
theorem flG_9 : am_flok "MilkHorse$Sheet" (9, 5, 0, false, false) := ⟨(R_5, F_5, 4), rfl, rfl, by decide, rfl, Or.inl ⟨rfl, am_m2 (i := 77) rfl rfl⟩, fun h => absurd h (by decide)⟩
theorem flG_15 : am_flok "MilkHorse$Sheet" (15, 5, 1, false, true) := ⟨(R_5, F_5, 4), rfl, rfl, by decide, rfl, Or.inl ⟨rfl, am_m2 (i := 79) rfl rfl⟩, fun _ => ⟨rfl, rfl, (by decide +kernel)⟩⟩
theorem flG_19 : am_flok "MilkHorse$Sheet" (19, 5, 2, false, true) := ⟨(R_5, F_5, 4), rfl, rfl, by decide, rfl, Or.inl ⟨rfl, am_m2 (i := 81) rfl rfl⟩, fun _ => ⟨rfl, rfl, (by decide +kernel)⟩⟩
theorem flG_22 : am_flok "MilkHorse$Sheet" (22, 5, 3, false, true) := ⟨(R_5, F_5, 4), rfl, rfl, by decide, rfl, Or.inl ⟨rfl, am_m2 (i := 83) rfl rfl⟩, fun _ => ⟨rfl, rfl, (by decide +kernel)⟩⟩
def flG : List (Nat × Nat × Nat × Bool × Bool) := [(9, 5, 0, false, false), (15, 5, 1, false, true), (19, 5, 2, false, true), (22, 5, 3, false, true)]
theorem flG_ok : ∀ q ∈ flG, am_flok "MilkHorse$Sheet" q := (List.forall_mem_cons.mpr ⟨flG_9, (List.forall_mem_cons.mpr ⟨flG_15, (List.forall_mem_cons.mpr ⟨flG_19, (List.forall_mem_cons.mpr ⟨flG_22, (fun _ h => absurd h List.not_mem_nil)⟩)⟩)⟩)⟩)
def kiG : List (Nat × Int32) := []
theorem kiG_ok : ∀ q ∈ kiG, Cond.constant "MilkHorse$Sheet" q.1 q.2 ∈ am_tbl := (fun _ h => absurd h List.not_mem_nil)
def klG : List (Nat × Int64) := []
theorem klG_ok : ∀ q ∈ klG, Cond.constantLong "MilkHorse$Sheet" q.1 q.2 ∈ am_tbl := (fun _ h => absurd h List.not_mem_nil)
theorem inG : Cond.initialized "MilkHorse$Sheet" ∈ am_tbl := am_m1 (i := 11) rfl rfl
theorem flS_9 : am_flok "MilkHorse$Sights" (9, 6, 0, false, false) := ⟨(R_6, F_6, 3), rfl, rfl, by decide, rfl, Or.inl ⟨rfl, am_m1 (i := 79) rfl rfl⟩, fun h => absurd h (by decide)⟩
theorem flS_15 : am_flok "MilkHorse$Sights" (15, 6, 1, false, false) := ⟨(R_6, F_6, 3), rfl, rfl, by decide, rfl, Or.inl ⟨rfl, am_m1 (i := 80) rfl rfl⟩, fun h => absurd h (by decide)⟩
theorem flS_18 : am_flok "MilkHorse$Sights" (18, 6, 2, false, true) := ⟨(R_6, F_6, 3), rfl, rfl, by decide, rfl, Or.inl ⟨rfl, am_m1 (i := 81) rfl rfl⟩, fun _ => ⟨rfl, rfl, (by decide +kernel)⟩⟩
def flS : List (Nat × Nat × Nat × Bool × Bool) := [(9, 6, 0, false, false), (15, 6, 1, false, false), (18, 6, 2, false, true)]
theorem flS_ok : ∀ q ∈ flS, am_flok "MilkHorse$Sights" q := (List.forall_mem_cons.mpr ⟨flS_9, (List.forall_mem_cons.mpr ⟨flS_15, (List.forall_mem_cons.mpr ⟨flS_18, (fun _ h => absurd h List.not_mem_nil)⟩)⟩)⟩)
def kiS : List (Nat × Int32) := []
theorem kiS_ok : ∀ q ∈ kiS, Cond.constant "MilkHorse$Sights" q.1 q.2 ∈ am_tbl := (fun _ h => absurd h List.not_mem_nil)
def klS : List (Nat × Int64) := []
theorem klS_ok : ∀ q ∈ klS, Cond.constantLong "MilkHorse$Sights" q.1 q.2 ∈ am_tbl := (fun _ h => absurd h List.not_mem_nil)
theorem inS : Cond.initialized "MilkHorse$Sights" ∈ am_tbl := am_m1 (i := 4) rfl rfl
theorem flQ_9 : am_flok "MilkHorse$Spared" (9, 7, 0, false, true) := ⟨(R_7, F_7, 4), rfl, rfl, by decide, rfl, Or.inl ⟨rfl, am_m2 (i := 34) rfl rfl⟩, fun _ => ⟨rfl, rfl, (by decide +kernel)⟩⟩
theorem flQ_15 : am_flok "MilkHorse$Spared" (15, 7, 1, false, true) := ⟨(R_7, F_7, 4), rfl, rfl, by decide, rfl, Or.inl ⟨rfl, am_m2 (i := 36) rfl rfl⟩, fun _ => ⟨rfl, rfl, (by decide +kernel)⟩⟩
theorem flQ_18 : am_flok "MilkHorse$Spared" (18, 7, 2, false, true) := ⟨(R_7, F_7, 4), rfl, rfl, by decide, rfl, Or.inl ⟨rfl, am_m2 (i := 38) rfl rfl⟩, fun _ => ⟨rfl, rfl, (by decide +kernel)⟩⟩
theorem flQ_21 : am_flok "MilkHorse$Spared" (21, 7, 3, false, true) := ⟨(R_7, F_7, 4), rfl, rfl, by decide, rfl, Or.inl ⟨rfl, am_m2 (i := 40) rfl rfl⟩, fun _ => ⟨rfl, rfl, (by decide +kernel)⟩⟩
def flQ : List (Nat × Nat × Nat × Bool × Bool) := [(9, 7, 0, false, true), (15, 7, 1, false, true), (18, 7, 2, false, true), (21, 7, 3, false, true)]
theorem flQ_ok : ∀ q ∈ flQ, am_flok "MilkHorse$Spared" q := (List.forall_mem_cons.mpr ⟨flQ_9, (List.forall_mem_cons.mpr ⟨flQ_15, (List.forall_mem_cons.mpr ⟨flQ_18, (List.forall_mem_cons.mpr ⟨flQ_21, (fun _ h => absurd h List.not_mem_nil)⟩)⟩)⟩)⟩)
def kiQ : List (Nat × Int32) := []
theorem kiQ_ok : ∀ q ∈ kiQ, Cond.constant "MilkHorse$Spared" q.1 q.2 ∈ am_tbl := (fun _ h => absurd h List.not_mem_nil)
def klQ : List (Nat × Int64) := []
theorem klQ_ok : ∀ q ∈ klQ, Cond.constantLong "MilkHorse$Spared" q.1 q.2 ∈ am_tbl := (fun _ h => absurd h List.not_mem_nil)
theorem inQ : Cond.initialized "MilkHorse$Spared" ∈ am_tbl := am_m1 (i := 9) rfl rfl
theorem flT_9 : am_flok "MilkHorse$Text" (9, 8, 0, false, false) := ⟨(R_8, F_8, 5), rfl, rfl, by decide, rfl, Or.inl ⟨rfl, am_m1 (i := 31) rfl rfl⟩, fun h => absurd h (by decide)⟩
theorem flT_15 : am_flok "MilkHorse$Text" (15, 8, 4, false, true) := ⟨(R_8, F_8, 5), rfl, rfl, by decide, rfl, Or.inl ⟨rfl, am_m1 (i := 35) rfl rfl⟩, fun _ => ⟨rfl, rfl, (by decide +kernel)⟩⟩
theorem flT_19 : am_flok "MilkHorse$Text" (19, 8, 1, false, false) := ⟨(R_8, F_8, 5), rfl, rfl, by decide, rfl, Or.inl ⟨rfl, am_m1 (i := 32) rfl rfl⟩, fun h => absurd h (by decide)⟩
theorem flT_22 : am_flok "MilkHorse$Text" (22, 8, 2, false, false) := ⟨(R_8, F_8, 5), rfl, rfl, by decide, rfl, Or.inl ⟨rfl, am_m1 (i := 33) rfl rfl⟩, fun h => absurd h (by decide)⟩
theorem flT_25 : am_flok "MilkHorse$Text" (25, 8, 3, false, false) := ⟨(R_8, F_8, 5), rfl, rfl, by decide, rfl, Or.inl ⟨rfl, am_m1 (i := 34) rfl rfl⟩, fun h => absurd h (by decide)⟩
def flT : List (Nat × Nat × Nat × Bool × Bool) := [(9, 8, 0, false, false), (15, 8, 4, false, true), (19, 8, 1, false, false), (22, 8, 2, false, false), (25, 8, 3, false, false)]
theorem flT_ok : ∀ q ∈ flT, am_flok "MilkHorse$Text" q := (List.forall_mem_cons.mpr ⟨flT_9, (List.forall_mem_cons.mpr ⟨flT_15, (List.forall_mem_cons.mpr ⟨flT_19, (List.forall_mem_cons.mpr ⟨flT_22, (List.forall_mem_cons.mpr ⟨flT_25, (fun _ h => absurd h List.not_mem_nil)⟩)⟩)⟩)⟩)⟩)
def kiT : List (Nat × Int32) := []
theorem kiT_ok : ∀ q ∈ kiT, Cond.constant "MilkHorse$Text" q.1 q.2 ∈ am_tbl := (fun _ h => absurd h List.not_mem_nil)
def klT : List (Nat × Int64) := []
theorem klT_ok : ∀ q ∈ klT, Cond.constantLong "MilkHorse$Text" q.1 q.2 ∈ am_tbl := (fun _ h => absurd h List.not_mem_nil)
theorem inT : Cond.initialized "MilkHorse$Text" ∈ am_tbl := am_m1 (i := 2) rfl rfl
theorem flW_9 : am_flok "MilkHorse$Walk" (9, 9, 0, false, false) := ⟨(R_9, F_9, 17), rfl, rfl, by decide, rfl, Or.inl ⟨rfl, am_m1 (i := 141) rfl rfl⟩, fun h => absurd h (by decide)⟩
theorem flW_15 : am_flok "MilkHorse$Walk" (15, 9, 1, false, false) := ⟨(R_9, F_9, 17), rfl, rfl, by decide, rfl, Or.inl ⟨rfl, am_m1 (i := 143) rfl rfl⟩, fun h => absurd h (by decide)⟩
theorem flW_18 : am_flok "MilkHorse$Walk" (18, 9, 2, false, false) := ⟨(R_9, F_9, 17), rfl, rfl, by decide, rfl, Or.inl ⟨rfl, am_m1 (i := 145) rfl rfl⟩, fun h => absurd h (by decide)⟩
theorem flW_21 : am_flok "MilkHorse$Walk" (21, 9, 3, false, false) := ⟨(R_9, F_9, 17), rfl, rfl, by decide, rfl, Or.inl ⟨rfl, am_m1 (i := 147) rfl rfl⟩, fun h => absurd h (by decide)⟩
theorem flW_28 : am_flok "MilkHorse$Walk" (28, 4, 7, true, true) := ⟨(R_4, F_4, 8), rfl, rfl, by decide, rfl, Or.inr ⟨rfl, am_n1 (i := 116) rfl rfl⟩, fun _ => ⟨rfl, rfl, (by decide +kernel)⟩⟩
theorem flW_41 : am_flok "MilkHorse$Walk" (41, 4, 4, true, true) := ⟨(R_4, F_4, 8), rfl, rfl, by decide, rfl, Or.inr ⟨rfl, am_n1 (i := 107) rfl rfl⟩, fun _ => ⟨rfl, rfl, (by decide +kernel)⟩⟩
theorem flW_48 : am_flok "MilkHorse$Walk" (48, 9, 4, false, true) := ⟨(R_9, F_9, 17), rfl, rfl, by decide, rfl, Or.inl ⟨rfl, am_m1 (i := 149) rfl rfl⟩, fun _ => ⟨rfl, rfl, (by decide +kernel)⟩⟩
theorem flW_51 : am_flok "MilkHorse$Walk" (51, 4, 0, true, false) := ⟨(R_4, F_4, 8), rfl, rfl, by decide, rfl, Or.inr ⟨rfl, am_n1 (i := 97) rfl rfl⟩, fun h => absurd h (by decide)⟩
theorem flW_66 : am_flok "MilkHorse$Walk" (66, 4, 1, true, false) := ⟨(R_4, F_4, 8), rfl, rfl, by decide, rfl, Or.inr ⟨rfl, am_n1 (i := 100) rfl rfl⟩, fun h => absurd h (by decide)⟩
theorem flW_73 : am_flok "MilkHorse$Walk" (73, 9, 5, false, true) := ⟨(R_9, F_9, 17), rfl, rfl, by decide, rfl, Or.inl ⟨rfl, am_m1 (i := 151) rfl rfl⟩, fun _ => ⟨rfl, rfl, (by decide +kernel)⟩⟩
theorem flW_76 : am_flok "MilkHorse$Walk" (76, 4, 6, true, true) := ⟨(R_4, F_4, 8), rfl, rfl, by decide, rfl, Or.inr ⟨rfl, am_n1 (i := 113) rfl rfl⟩, fun _ => ⟨rfl, rfl, (by decide +kernel)⟩⟩
theorem flW_77 : am_flok "MilkHorse$Walk" (77, 9, 6, false, true) := ⟨(R_9, F_9, 17), rfl, rfl, by decide, rfl, Or.inl ⟨rfl, am_m1 (i := 153) rfl rfl⟩, fun _ => ⟨rfl, rfl, (by decide +kernel)⟩⟩
theorem flW_80 : am_flok "MilkHorse$Walk" (80, 9, 7, false, true) := ⟨(R_9, F_9, 17), rfl, rfl, by decide, rfl, Or.inl ⟨rfl, am_m1 (i := 155) rfl rfl⟩, fun _ => ⟨rfl, rfl, (by decide +kernel)⟩⟩
theorem flW_83 : am_flok "MilkHorse$Walk" (83, 9, 8, false, true) := ⟨(R_9, F_9, 17), rfl, rfl, by decide, rfl, Or.inl ⟨rfl, am_m1 (i := 157) rfl rfl⟩, fun _ => ⟨rfl, rfl, (by decide +kernel)⟩⟩
theorem flW_86 : am_flok "MilkHorse$Walk" (86, 9, 9, false, true) := ⟨(R_9, F_9, 17), rfl, rfl, by decide, rfl, Or.inl ⟨rfl, am_m1 (i := 159) rfl rfl⟩, fun _ => ⟨rfl, rfl, (by decide +kernel)⟩⟩
theorem flW_89 : am_flok "MilkHorse$Walk" (89, 9, 10, false, true) := ⟨(R_9, F_9, 17), rfl, rfl, by decide, rfl, Or.inl ⟨rfl, am_m1 (i := 160) rfl rfl⟩, fun _ => ⟨rfl, rfl, (by decide +kernel)⟩⟩
theorem flW_93 : am_flok "MilkHorse$Walk" (93, 9, 13, false, true) := ⟨(R_9, F_9, 17), rfl, rfl, by decide, rfl, Or.inl ⟨rfl, am_m1 (i := 164) rfl rfl⟩, fun _ => ⟨rfl, rfl, (by decide +kernel)⟩⟩
theorem flW_96 : am_flok "MilkHorse$Walk" (96, 9, 14, false, true) := ⟨(R_9, F_9, 17), rfl, rfl, by decide, rfl, Or.inl ⟨rfl, am_m1 (i := 167) rfl rfl⟩, fun _ => ⟨rfl, rfl, (by decide +kernel)⟩⟩
theorem flW_99 : am_flok "MilkHorse$Walk" (99, 9, 15, false, true) := ⟨(R_9, F_9, 17), rfl, rfl, by decide, rfl, Or.inl ⟨rfl, am_m1 (i := 169) rfl rfl⟩, fun _ => ⟨rfl, rfl, (by decide +kernel)⟩⟩
theorem flW_102 : am_flok "MilkHorse$Walk" (102, 9, 16, false, true) := ⟨(R_9, F_9, 17), rfl, rfl, by decide, rfl, Or.inl ⟨rfl, am_m1 (i := 172) rfl rfl⟩, fun _ => ⟨rfl, rfl, (by decide +kernel)⟩⟩
theorem flW_105 : am_flok "MilkHorse$Walk" (105, 9, 11, false, true) := ⟨(R_9, F_9, 17), rfl, rfl, by decide, rfl, Or.inl ⟨rfl, am_m1 (i := 161) rfl rfl⟩, fun _ => ⟨rfl, rfl, (by decide +kernel)⟩⟩
theorem flW_108 : am_flok "MilkHorse$Walk" (108, 3, 3, true, true) := ⟨(R_3, F_3, 4), rfl, rfl, by decide, rfl, Or.inr ⟨rfl, am_n1 (i := 62) rfl rfl⟩, fun _ => ⟨rfl, rfl, (by decide +kernel)⟩⟩
theorem flW_113 : am_flok "MilkHorse$Walk" (113, 3, 1, true, false) := ⟨(R_3, F_3, 4), rfl, rfl, by decide, rfl, Or.inr ⟨rfl, am_n1 (i := 58) rfl rfl⟩, fun h => absurd h (by decide)⟩
theorem flW_116 : am_flok "MilkHorse$Walk" (116, 3, 0, true, false) := ⟨(R_3, F_3, 4), rfl, rfl, by decide, rfl, Or.inr ⟨rfl, am_n1 (i := 56) rfl rfl⟩, fun h => absurd h (by decide)⟩
theorem flW_119 : am_flok "MilkHorse$Walk" (119, 3, 2, true, false) := ⟨(R_3, F_3, 4), rfl, rfl, by decide, rfl, Or.inr ⟨rfl, am_n1 (i := 60) rfl rfl⟩, fun h => absurd h (by decide)⟩
theorem flW_146 : am_flok "MilkHorse$Walk" (146, 9, 12, false, true) := ⟨(R_9, F_9, 17), rfl, rfl, by decide, rfl, Or.inl ⟨rfl, am_m1 (i := 163) rfl rfl⟩, fun _ => ⟨rfl, rfl, (by decide +kernel)⟩⟩
theorem flW_152 : am_flok "MilkHorse$Walk" (152, 4, 5, true, true) := ⟨(R_4, F_4, 8), rfl, rfl, by decide, rfl, Or.inr ⟨rfl, am_n1 (i := 110) rfl rfl⟩, fun _ => ⟨rfl, rfl, (by decide +kernel)⟩⟩
def flW : List (Nat × Nat × Nat × Bool × Bool) := [(9, 9, 0, false, false), (15, 9, 1, false, false), (18, 9, 2, false, false), (21, 9, 3, false, false), (28, 4, 7, true, true), (41, 4, 4, true, true), (48, 9, 4, false, true), (51, 4, 0, true, false), (66, 4, 1, true, false), (73, 9, 5, false, true), (76, 4, 6, true, true), (77, 9, 6, false, true), (80, 9, 7, false, true), (83, 9, 8, false, true), (86, 9, 9, false, true), (89, 9, 10, false, true), (93, 9, 13, false, true), (96, 9, 14, false, true), (99, 9, 15, false, true), (102, 9, 16, false, true), (105, 9, 11, false, true), (108, 3, 3, true, true), (113, 3, 1, true, false), (116, 3, 0, true, false), (119, 3, 2, true, false), (146, 9, 12, false, true), (152, 4, 5, true, true)]
theorem flW_ok : ∀ q ∈ flW, am_flok "MilkHorse$Walk" q := (List.forall_mem_cons.mpr ⟨flW_9, (List.forall_mem_cons.mpr ⟨flW_15, (List.forall_mem_cons.mpr ⟨flW_18, (List.forall_mem_cons.mpr ⟨flW_21, (List.forall_mem_cons.mpr ⟨flW_28, (List.forall_mem_cons.mpr ⟨flW_41, (List.forall_mem_cons.mpr ⟨flW_48, (List.forall_mem_cons.mpr ⟨flW_51, (List.forall_mem_cons.mpr ⟨flW_66, (List.forall_mem_cons.mpr ⟨flW_73, (List.forall_mem_cons.mpr ⟨flW_76, (List.forall_mem_cons.mpr ⟨flW_77, (List.forall_mem_cons.mpr ⟨flW_80, (List.forall_mem_cons.mpr ⟨flW_83, (List.forall_mem_cons.mpr ⟨flW_86, (List.forall_mem_cons.mpr ⟨flW_89, (List.forall_mem_cons.mpr ⟨flW_93, (List.forall_mem_cons.mpr ⟨flW_96, (List.forall_mem_cons.mpr ⟨flW_99, (List.forall_mem_cons.mpr ⟨flW_102, (List.forall_mem_cons.mpr ⟨flW_105, (List.forall_mem_cons.mpr ⟨flW_108, (List.forall_mem_cons.mpr ⟨flW_113, (List.forall_mem_cons.mpr ⟨flW_116, (List.forall_mem_cons.mpr ⟨flW_119, (List.forall_mem_cons.mpr ⟨flW_146, (List.forall_mem_cons.mpr ⟨flW_152, (fun _ h => absurd h List.not_mem_nil)⟩)⟩)⟩)⟩)⟩)⟩)⟩)⟩)⟩)⟩)⟩)⟩)⟩)⟩)⟩)⟩)⟩)⟩)⟩)⟩)⟩)⟩)⟩)⟩)⟩)⟩)⟩)
def kiW : List (Nat × Int32) := []
theorem kiW_ok : ∀ q ∈ kiW, Cond.constant "MilkHorse$Walk" q.1 q.2 ∈ am_tbl := (fun _ h => absurd h List.not_mem_nil)
def klW : List (Nat × Int64) := []
theorem klW_ok : ∀ q ∈ klW, Cond.constantLong "MilkHorse$Walk" q.1 q.2 ∈ am_tbl := (fun _ h => absurd h List.not_mem_nil)
theorem inW : Cond.initialized "MilkHorse$Walk" ∈ am_tbl := am_m1 (i := 6) rfl rfl
def flL : List (Nat × Nat × Nat × Bool × Bool) := []
theorem flL_ok : ∀ q ∈ flL, am_flok "MilkHorseLaw" q := (fun _ h => absurd h List.not_mem_nil)
def kiL : List (Nat × Int32) := []
theorem kiL_ok : ∀ q ∈ kiL, Cond.constant "MilkHorseLaw" q.1 q.2 ∈ am_tbl := (fun _ h => absurd h List.not_mem_nil)
def klL : List (Nat × Int64) := []
theorem klL_ok : ∀ q ∈ klL, Cond.constantLong "MilkHorseLaw" q.1 q.2 ∈ am_tbl := (fun _ h => absurd h List.not_mem_nil)
theorem inL : Cond.initialized "MilkHorseLaw" ∈ am_tbl := am_m1 (i := 0) rfl rfl
def flJI : List (Nat × Nat × Nat × Bool × Bool) := []
theorem flJI_ok : ∀ q ∈ flJI, am_flok "java/lang/Integer" q := (fun _ h => absurd h List.not_mem_nil)
def kiJI : List (Nat × Int32) := [(265, 1431655765), (266, 858993459), (267, 252645135)]
theorem kiJI_ok : ∀ q ∈ kiJI, Cond.constant "java/lang/Integer" q.1 q.2 ∈ am_tbl := (List.forall_mem_cons.mpr ⟨am_m3 (i := 135) rfl rfl, (List.forall_mem_cons.mpr ⟨am_m3 (i := 136) rfl rfl, (List.forall_mem_cons.mpr ⟨am_m3 (i := 137) rfl rfl, (fun _ h => absurd h List.not_mem_nil)⟩)⟩)⟩)
def klJI : List (Nat × Int64) := []
theorem klJI_ok : ∀ q ∈ klJI, Cond.constantLong "java/lang/Integer" q.1 q.2 ∈ am_tbl := (fun _ h => absurd h List.not_mem_nil)
theorem inJI : Cond.initialized "java/lang/Integer" ∈ am_tbl := am_m1 (i := 16) rfl rfl
def flJM : List (Nat × Nat × Nat × Bool × Bool) := []
theorem flJM_ok : ∀ q ∈ flJM, am_flok "java/lang/Math" q := (fun _ h => absurd h List.not_mem_nil)
def kiJM : List (Nat × Int32) := []
theorem kiJM_ok : ∀ q ∈ kiJM, Cond.constant "java/lang/Math" q.1 q.2 ∈ am_tbl := (fun _ h => absurd h List.not_mem_nil)
def klJM : List (Nat × Int64) := []
theorem klJM_ok : ∀ q ∈ klJM, Cond.constantLong "java/lang/Math" q.1 q.2 ∈ am_tbl := (fun _ h => absurd h List.not_mem_nil)
theorem inJM : Cond.initialized "java/lang/Math" ∈ am_tbl := am_m1 (i := 15) rfl rfl
def flJA : List (Nat × Nat × Nat × Bool × Bool) := []
theorem flJA_ok : ∀ q ∈ flJA, am_flok "java/util/Arrays" q := (fun _ h => absurd h List.not_mem_nil)
def kiJA : List (Nat × Int32) := []
theorem kiJA_ok : ∀ q ∈ kiJA, Cond.constant "java/util/Arrays" q.1 q.2 ∈ am_tbl := (fun _ h => absurd h List.not_mem_nil)
def klJA : List (Nat × Int64) := []
theorem klJA_ok : ∀ q ∈ klJA, Cond.constantLong "java/util/Arrays" q.1 q.2 ∈ am_tbl := (fun _ h => absurd h List.not_mem_nil)
theorem inJA : Cond.initialized "java/util/Arrays" ∈ am_tbl := am_m1 (i := 13) rfl rfl
def yX_type : MethodName := ⟨"MilkHorse", "type", "(II)I"⟩
theorem wcX_type : Cond.code yX_type prog_1_method_2_code 5 (some .int) ∈ am_tbl := am_m2 (i := 149) rfl rfl
theorem wiX_type : Cond.instanceMethod yX_type ∈ am_tbl := am_m2 (i := 147) rfl rfl
theorem wsX_type : Cond.selects "MilkHorse" yX_type yX_type ∈ am_tbl := am_m2 (i := 148) rfl rfl
def yX_textOf : MethodName := ⟨"MilkHorse", "textOf", "(I)LMilkHorse$Text;"⟩
theorem wcX_textOf : Cond.code yX_textOf prog_1_method_44_code 2 (some (.object "MilkHorse$Text")) ∈ am_tbl := am_m2 (i := 153) rfl rfl
theorem wiX_textOf : Cond.instanceMethod yX_textOf ∈ am_tbl := am_m2 (i := 152) rfl rfl
theorem wsX_textOf : Cond.selects "MilkHorse" yX_textOf yX_textOf ∈ am_tbl := am_memS (i := 0) (by decide +kernel) (by decide +kernel)
def yT_add : MethodName := ⟨"MilkHorse$Text", "add", "(I)I"⟩
theorem wcT_add : Cond.code yT_add prog_10_method_2_code 2 (some .int) ∈ am_tbl := am_m2 (i := 157) rfl rfl
theorem wiT_add : Cond.instanceMethod yT_add ∈ am_tbl := am_m2 (i := 155) rfl rfl
theorem wsT_add : Cond.selects "MilkHorse$Text" yT_add yT_add ∈ am_tbl := am_m2 (i := 156) rfl rfl
def yX_hearTexts : MethodName := ⟨"MilkHorse", "hearTexts", "()V"⟩
theorem wcX_hearTexts : Cond.code yX_hearTexts prog_1_method_47_code 1 none ∈ am_tbl := am_m2 (i := 161) rfl rfl
theorem wiX_hearTexts : Cond.instanceMethod yX_hearTexts ∈ am_tbl := am_m2 (i := 160) rfl rfl
theorem wsX_hearTexts : Cond.selects "MilkHorse" yX_hearTexts yX_hearTexts ∈ am_tbl := am_memS (i := 1) (by decide +kernel) (by decide +kernel)
def yT_spell : MethodName := ⟨"MilkHorse$Text", "spell", "([I)I"⟩
theorem wcT_spell : Cond.code yT_spell prog_10_method_6_code 4 (some .int) ∈ am_tbl := am_m2 (i := 165) rfl rfl
theorem wiT_spell : Cond.instanceMethod yT_spell ∈ am_tbl := am_m2 (i := 163) rfl rfl
theorem wsT_spell : Cond.selects "MilkHorse$Text" yT_spell yT_spell ∈ am_tbl := am_m2 (i := 164) rfl rfl
def yT_firstFault : MethodName := ⟨"MilkHorse$Text", "firstFault", "()I"⟩
theorem wcT_firstFault : Cond.code yT_firstFault prog_10_method_5_code 2 (some .int) ∈ am_tbl := am_m2 (i := 169) rfl rfl
theorem wiT_firstFault : Cond.instanceMethod yT_firstFault ∈ am_tbl := am_m2 (i := 167) rfl rfl
theorem wsT_firstFault : Cond.selects "MilkHorse$Text" yT_firstFault yT_firstFault ∈ am_tbl := am_m2 (i := 168) rfl rfl
def yX_forgetMornings : MethodName := ⟨"MilkHorse", "forgetMornings", "()V"⟩
theorem wcX_forgetMornings : Cond.code yX_forgetMornings prog_1_method_48_code 1 none ∈ am_tbl := am_m2 (i := 173) rfl rfl
theorem wiX_forgetMornings : Cond.instanceMethod yX_forgetMornings ∈ am_tbl := am_m2 (i := 172) rfl rfl
theorem wsX_forgetMornings : Cond.selects "MilkHorse" yX_forgetMornings yX_forgetMornings ∈ am_tbl := am_memS (i := 2) (by decide +kernel) (by decide +kernel)
def yX_wipe : MethodName := ⟨"MilkHorse", "wipe", "(I)I"⟩
theorem wcX_wipe : Cond.code yX_wipe prog_1_method_3_code 4 (some .int) ∈ am_tbl := am_m2 (i := 177) rfl rfl
theorem wiX_wipe : Cond.instanceMethod yX_wipe ∈ am_tbl := am_m2 (i := 175) rfl rfl
theorem wsX_wipe : Cond.selects "MilkHorse" yX_wipe yX_wipe ∈ am_tbl := am_m2 (i := 176) rfl rfl
def yT_clear : MethodName := ⟨"MilkHorse$Text", "clear", "()I"⟩
theorem wcT_clear : Cond.code yT_clear prog_10_method_3_code 2 (some .int) ∈ am_tbl := am_m2 (i := 181) rfl rfl
theorem wiT_clear : Cond.instanceMethod yT_clear ∈ am_tbl := am_m2 (i := 179) rfl rfl
theorem wsT_clear : Cond.selects "MilkHorse$Text" yT_clear yT_clear ∈ am_tbl := am_m2 (i := 180) rfl rfl
def yX_undo : MethodName := ⟨"MilkHorse", "undo", "(I)I"⟩
theorem wcX_undo : Cond.code yX_undo prog_1_method_4_code 4 (some .int) ∈ am_tbl := am_m2 (i := 185) rfl rfl
theorem wiX_undo : Cond.instanceMethod yX_undo ∈ am_tbl := am_m2 (i := 183) rfl rfl
theorem wsX_undo : Cond.selects "MilkHorse" yX_undo yX_undo ∈ am_tbl := am_m2 (i := 184) rfl rfl
def yT_drop : MethodName := ⟨"MilkHorse$Text", "drop", "()I"⟩
theorem wcT_drop : Cond.code yT_drop prog_10_method_4_code 1 (some .int) ∈ am_tbl := am_m2 (i := 189) rfl rfl
theorem wiT_drop : Cond.instanceMethod yT_drop ∈ am_tbl := am_m2 (i := 187) rfl rfl
theorem wsT_drop : Cond.selects "MilkHorse$Text" yT_drop yT_drop ∈ am_tbl := am_m2 (i := 188) rfl rfl
def yX_fault : MethodName := ⟨"MilkHorse", "fault", "(I)I"⟩
theorem wcX_fault : Cond.code yX_fault prog_1_method_5_code 3 (some .int) ∈ am_tbl := am_m2 (i := 193) rfl rfl
theorem wiX_fault : Cond.instanceMethod yX_fault ∈ am_tbl := am_m2 (i := 191) rfl rfl
theorem wsX_fault : Cond.selects "MilkHorse" yX_fault yX_fault ∈ am_tbl := am_m2 (i := 192) rfl rfl
def yX_told : MethodName := ⟨"MilkHorse", "told", "(II)I"⟩
theorem wcX_told : Cond.code yX_told prog_1_method_6_code 3 (some .int) ∈ am_tbl := am_m2 (i := 198) rfl rfl
theorem wiX_told : Cond.instanceMethod yX_told ∈ am_tbl := am_m2 (i := 196) rfl rfl
theorem wsX_told : Cond.selects "MilkHorse" yX_told yX_told ∈ am_tbl := am_m2 (i := 197) rfl rfl
def yX_isDoor : MethodName := ⟨"MilkHorse", "isDoor", "(I)Z"⟩
theorem wcX_isDoor : Cond.code yX_isDoor prog_1_method_41_code 1 (some .boolean) ∈ am_tbl := am_m2 (i := 201) rfl rfl
theorem wtX_isDoor : Cond.static yX_isDoor ∈ am_tbl := am_m2 (i := 200) rfl rfl
def yX_round : MethodName := ⟨"MilkHorse", "round", "(I)I"⟩
theorem wcX_round : Cond.code yX_round prog_1_method_7_code 2 (some .int) ∈ am_tbl := am_m2 (i := 205) rfl rfl
theorem wiX_round : Cond.instanceMethod yX_round ∈ am_tbl := am_m2 (i := 203) rfl rfl
theorem wsX_round : Cond.selects "MilkHorse" yX_round yX_round ∈ am_tbl := am_m2 (i := 204) rfl rfl
def yP_doorAt : MethodName := ⟨"MilkHorse$Plan", "doorAt", "(I)I"⟩
theorem wcP_doorAt : Cond.code yP_doorAt prog_6_method_3_code 2 (some .int) ∈ am_tbl := am_m2 (i := 209) rfl rfl
theorem wiP_doorAt : Cond.instanceMethod yP_doorAt ∈ am_tbl := am_m2 (i := 207) rfl rfl
theorem wsP_doorAt : Cond.selects "MilkHorse$Plan" yP_doorAt yP_doorAt ∈ am_tbl := am_m2 (i := 208) rfl rfl
def yX_set : MethodName := ⟨"MilkHorse", "set", "(II)I"⟩
theorem wcX_set : Cond.code yX_set prog_1_method_8_code 4 (some .int) ∈ am_tbl := am_m2 (i := 213) rfl rfl
theorem wiX_set : Cond.instanceMethod yX_set ∈ am_tbl := am_m2 (i := 211) rfl rfl
theorem wsX_set : Cond.selects "MilkHorse" yX_set yX_set ∈ am_tbl := am_m2 (i := 212) rfl rfl
def yX_event : MethodName := ⟨"MilkHorse", "event", "(III)I"⟩
theorem wcX_event : Cond.code yX_event prog_1_method_9_code 5 (some .int) ∈ am_tbl := am_m2 (i := 217) rfl rfl
theorem wiX_event : Cond.instanceMethod yX_event ∈ am_tbl := am_m2 (i := 215) rfl rfl
theorem wsX_event : Cond.selects "MilkHorse" yX_event yX_event ∈ am_tbl := am_m2 (i := 216) rfl rfl
def yE_add : MethodName := ⟨"MilkHorse$Events", "add", "(III)I"⟩
theorem wcE_add : Cond.code yE_add prog_5_method_2_code 4 (some .int) ∈ am_tbl := am_m2 (i := 221) rfl rfl
theorem wiE_add : Cond.instanceMethod yE_add ∈ am_tbl := am_m2 (i := 219) rfl rfl
theorem wsE_add : Cond.selects "MilkHorse$Events" yE_add yE_add ∈ am_tbl := am_m2 (i := 220) rfl rfl
def yX_isMinute : MethodName := ⟨"MilkHorse", "isMinute", "(I)Z"⟩
theorem wcX_isMinute : Cond.code yX_isMinute prog_1_method_42_code 1 (some .boolean) ∈ am_tbl := am_m2 (i := 224) rfl rfl
theorem wtX_isMinute : Cond.static yX_isMinute ∈ am_tbl := am_m2 (i := 223) rfl rfl
def yX_back : MethodName := ⟨"MilkHorse", "back", "()I"⟩
theorem wcX_back : Cond.code yX_back prog_1_method_10_code 2 (some .int) ∈ am_tbl := am_m2 (i := 229) rfl rfl
theorem wiX_back : Cond.instanceMethod yX_back ∈ am_tbl := am_m2 (i := 227) rfl rfl
theorem wsX_back : Cond.selects "MilkHorse" yX_back yX_back ∈ am_tbl := am_m2 (i := 228) rfl rfl
def yE_drop : MethodName := ⟨"MilkHorse$Events", "drop", "()I"⟩
theorem wcE_drop : Cond.code yE_drop prog_5_method_3_code 1 (some .int) ∈ am_tbl := am_m2 (i := 233) rfl rfl
theorem wiE_drop : Cond.instanceMethod yE_drop ∈ am_tbl := am_m2 (i := 231) rfl rfl
theorem wsE_drop : Cond.selects "MilkHorse$Events" yE_drop yE_drop ∈ am_tbl := am_m2 (i := 232) rfl rfl
def yX_read : MethodName := ⟨"MilkHorse", "read", "(I)I"⟩
theorem wcX_read : Cond.code yX_read prog_1_method_11_code 5 (some .int) ∈ am_tbl := am_m2 (i := 237) rfl rfl
theorem wiX_read : Cond.instanceMethod yX_read ∈ am_tbl := am_m2 (i := 235) rfl rfl
theorem wsX_read : Cond.selects "MilkHorse" yX_read yX_read ∈ am_tbl := am_m2 (i := 236) rfl rfl
def yX_sheetOf : MethodName := ⟨"MilkHorse", "sheetOf", "(I)LMilkHorse$Sheet;"⟩
theorem wcX_sheetOf : Cond.code yX_sheetOf prog_1_method_45_code 2 (some (.object "MilkHorse$Sheet")) ∈ am_tbl := am_m3 (i := 1) rfl rfl
theorem wiX_sheetOf : Cond.instanceMethod yX_sheetOf ∈ am_tbl := am_m3 (i := 0) rfl rfl
theorem wsX_sheetOf : Cond.selects "MilkHorse" yX_sheetOf yX_sheetOf ∈ am_tbl := am_memS (i := 3) (by decide +kernel) (by decide +kernel)
def yX_found : MethodName := ⟨"MilkHorse", "found", "(I)I"⟩
theorem wcX_found : Cond.code yX_found prog_1_method_46_code 2 (some .int) ∈ am_tbl := am_m3 (i := 5) rfl rfl
theorem wiX_found : Cond.instanceMethod yX_found ∈ am_tbl := am_m3 (i := 4) rfl rfl
theorem wsX_found : Cond.selects "MilkHorse" yX_found yX_found ∈ am_tbl := am_memS (i := 4) (by decide +kernel) (by decide +kernel)
def yX_at : MethodName := ⟨"MilkHorse", "at", "(II)I"⟩
theorem wcX_at : Cond.code yX_at prog_1_method_12_code 3 (some .int) ∈ am_tbl := am_m3 (i := 9) rfl rfl
theorem wiX_at : Cond.instanceMethod yX_at ∈ am_tbl := am_m3 (i := 7) rfl rfl
theorem wsX_at : Cond.selects "MilkHorse" yX_at yX_at ∈ am_tbl := am_m3 (i := 8) rfl rfl
def yX_learnDay : MethodName := ⟨"MilkHorse", "learnDay", "()V"⟩
theorem wcX_learnDay : Cond.code yX_learnDay prog_1_method_49_code 1 none ∈ am_tbl := am_m3 (i := 14) rfl rfl
theorem wiX_learnDay : Cond.instanceMethod yX_learnDay ∈ am_tbl := am_m3 (i := 13) rfl rfl
theorem wsX_learnDay : Cond.selects "MilkHorse" yX_learnDay yX_learnDay ∈ am_tbl := am_memS (i := 5) (by decide +kernel) (by decide +kernel)
def yY_begin : MethodName := ⟨"MilkHorse$Day", "begin", "()V"⟩
theorem wcY_begin : Cond.code yY_begin prog_4_method_2_code 1 none ∈ am_tbl := am_m3 (i := 18) rfl rfl
theorem wiY_begin : Cond.instanceMethod yY_begin ∈ am_tbl := am_m3 (i := 16) rfl rfl
theorem wsY_begin : Cond.selects "MilkHorse$Day" yY_begin yY_begin ∈ am_tbl := am_m3 (i := 17) rfl rfl
def yJ_fill : MethodName := ⟨"java/util/Arrays", "fill", "([II)V"⟩
theorem wcJ_fill : Cond.code yJ_fill prog_17_method_103_code 4 none ∈ am_tbl := am_m3 (i := 21) rfl rfl
theorem wtJ_fill : Cond.static yJ_fill ∈ am_tbl := am_m3 (i := 20) rfl rfl
def yW_run : MethodName := ⟨"MilkHorse$Walk", "run", "(LMilkHorse$Plan;LMilkHorse$Events;LMilkHorse$Day;)V"⟩
theorem wcW_run : Cond.code yW_run prog_11_method_2_code 5 none ∈ am_tbl := am_m3 (i := 25) rfl rfl
theorem wiW_run : Cond.instanceMethod yW_run ∈ am_tbl := am_m3 (i := 23) rfl rfl
theorem wsW_run : Cond.selects "MilkHorse$Walk" yW_run yW_run ∈ am_tbl := am_m3 (i := 24) rfl rfl
def yW_begin : MethodName := ⟨"MilkHorse$Walk", "begin", "(LMilkHorse$Plan;)V"⟩
theorem wcW_begin : Cond.code yW_begin prog_11_method_3_code 2 none ∈ am_tbl := am_m3 (i := 29) rfl rfl
theorem wiW_begin : Cond.instanceMethod yW_begin ∈ am_tbl := am_m3 (i := 28) rfl rfl
theorem wsW_begin : Cond.selects "MilkHorse$Walk" yW_begin yW_begin ∈ am_tbl := am_memS (i := 6) (by decide +kernel) (by decide +kernel)
def yW_befall : MethodName := ⟨"MilkHorse$Walk", "befall", "(ILMilkHorse$Events;I)V"⟩
theorem wcW_befall : Cond.code yW_befall prog_11_method_4_code 7 none ∈ am_tbl := am_m3 (i := 37) rfl rfl
theorem wiW_befall : Cond.instanceMethod yW_befall ∈ am_tbl := am_m3 (i := 36) rfl rfl
theorem wsW_befall : Cond.selects "MilkHorse$Walk" yW_befall yW_befall ∈ am_tbl := am_memS (i := 7) (by decide +kernel) (by decide +kernel)
def yW_pullCart : MethodName := ⟨"MilkHorse$Walk", "pullCart", "(I)V"⟩
theorem wcW_pullCart : Cond.code yW_pullCart prog_11_method_6_code 2 none ∈ am_tbl := am_m3 (i := 41) rfl rfl
theorem wiW_pullCart : Cond.instanceMethod yW_pullCart ∈ am_tbl := am_m3 (i := 40) rfl rfl
theorem wsW_pullCart : Cond.selects "MilkHorse$Walk" yW_pullCart yW_pullCart ∈ am_tbl := am_memS (i := 8) (by decide +kernel) (by decide +kernel)
def yJ_min : MethodName := ⟨"java/lang/Math", "min", "(II)I"⟩
theorem wcJ_min : Cond.code yJ_min prog_15_method_69_code 2 (some .int) ∈ am_tbl := am_m3 (i := 44) rfl rfl
theorem wtJ_min : Cond.static yJ_min ∈ am_tbl := am_m3 (i := 43) rfl rfl
def yJ_max : MethodName := ⟨"java/lang/Math", "max", "(II)I"⟩
theorem wcJ_max : Cond.code yJ_max prog_15_method_65_code 2 (some .int) ∈ am_tbl := am_m3 (i := 47) rfl rfl
theorem wtJ_max : Cond.static yJ_max ∈ am_tbl := am_m3 (i := 46) rfl rfl
def yW_breakOne : MethodName := ⟨"MilkHorse$Walk", "breakOne", "(I)V"⟩
theorem wcW_breakOne : Cond.code yW_breakOne prog_11_method_5_code 2 none ∈ am_tbl := am_m3 (i := 51) rfl rfl
theorem wiW_breakOne : Cond.instanceMethod yW_breakOne ∈ am_tbl := am_m3 (i := 50) rfl rfl
theorem wsW_breakOne : Cond.selects "MilkHorse$Walk" yW_breakOne yW_breakOne ∈ am_tbl := am_memS (i := 9) (by decide +kernel) (by decide +kernel)
def yW_act : MethodName := ⟨"MilkHorse$Walk", "act", "(LMilkHorse$Plan;)V"⟩
theorem wcW_act : Cond.code yW_act prog_11_method_7_code 5 none ∈ am_tbl := am_m3 (i := 56) rfl rfl
theorem wiW_act : Cond.instanceMethod yW_act ∈ am_tbl := am_m3 (i := 55) rfl rfl
theorem wsW_act : Cond.selects "MilkHorse$Walk" yW_act yW_act ∈ am_tbl := am_memS (i := 10) (by decide +kernel) (by decide +kernel)
def yW_goTowards : MethodName := ⟨"MilkHorse$Walk", "goTowards", "(I)V"⟩
theorem wcW_goTowards : Cond.code yW_goTowards prog_11_method_8_code 3 none ∈ am_tbl := am_m3 (i := 61) rfl rfl
theorem wiW_goTowards : Cond.instanceMethod yW_goTowards ∈ am_tbl := am_m3 (i := 60) rfl rfl
theorem wsW_goTowards : Cond.selects "MilkHorse$Walk" yW_goTowards yW_goTowards ∈ am_tbl := am_memS (i := 11) (by decide +kernel) (by decide +kernel)
def yW_hasDog : MethodName := ⟨"MilkHorse$Walk", "hasDog", "(I)Z"⟩
theorem wcW_hasDog : Cond.code yW_hasDog prog_11_method_9_code 2 (some .boolean) ∈ am_tbl := am_m3 (i := 65) rfl rfl
theorem wiW_hasDog : Cond.instanceMethod yW_hasDog ∈ am_tbl := am_m3 (i := 64) rfl rfl
theorem wsW_hasDog : Cond.selects "MilkHorse$Walk" yW_hasDog yW_hasDog ∈ am_tbl := am_memS (i := 12) (by decide +kernel) (by decide +kernel)
def yW_fillCrate : MethodName := ⟨"MilkHorse$Walk", "fillCrate", "(I)V"⟩
theorem wcW_fillCrate : Cond.code yW_fillCrate prog_11_method_10_code 2 none ∈ am_tbl := am_m3 (i := 69) rfl rfl
theorem wiW_fillCrate : Cond.instanceMethod yW_fillCrate ∈ am_tbl := am_m3 (i := 68) rfl rfl
theorem wsW_fillCrate : Cond.selects "MilkHorse$Walk" yW_fillCrate yW_fillCrate ∈ am_tbl := am_memS (i := 13) (by decide +kernel) (by decide +kernel)
def yW_serve : MethodName := ⟨"MilkHorse$Walk", "serve", "(LMilkHorse$Plan;I)V"⟩
theorem wcW_serve : Cond.code yW_serve prog_11_method_11_code 5 none ∈ am_tbl := am_m3 (i := 73) rfl rfl
theorem wiW_serve : Cond.instanceMethod yW_serve ∈ am_tbl := am_m3 (i := 72) rfl rfl
theorem wsW_serve : Cond.selects "MilkHorse$Walk" yW_serve yW_serve ∈ am_tbl := am_memS (i := 14) (by decide +kernel) (by decide +kernel)
def yW_drive : MethodName := ⟨"MilkHorse$Walk", "drive", "(II)V"⟩
theorem wcW_drive : Cond.code yW_drive prog_11_method_12_code 5 none ∈ am_tbl := am_m3 (i := 77) rfl rfl
theorem wiW_drive : Cond.instanceMethod yW_drive ∈ am_tbl := am_m3 (i := 76) rfl rfl
theorem wsW_drive : Cond.selects "MilkHorse$Walk" yW_drive yW_drive ∈ am_tbl := am_memS (i := 15) (by decide +kernel) (by decide +kernel)
def yJ_abs : MethodName := ⟨"java/lang/Math", "abs", "(I)I"⟩
theorem wcJ_abs : Cond.code yJ_abs prog_15_method_59_code 1 (some .int) ∈ am_tbl := am_m3 (i := 80) rfl rfl
theorem wtJ_abs : Cond.static yJ_abs ∈ am_tbl := am_m3 (i := 79) rfl rfl
def yY_note : MethodName := ⟨"MilkHorse$Day", "note", "(LMilkHorse$Walk;[II)V"⟩
theorem wcY_note : Cond.code yY_note prog_4_method_3_code 7 none ∈ am_tbl := am_m3 (i := 84) rfl rfl
theorem wiY_note : Cond.instanceMethod yY_note ∈ am_tbl := am_m3 (i := 82) rfl rfl
theorem wsY_note : Cond.selects "MilkHorse$Day" yY_note yY_note ∈ am_tbl := am_m3 (i := 83) rfl rfl
def yY_end : MethodName := ⟨"MilkHorse$Day", "end", "(LMilkHorse$Walk;LMilkHorse$Plan;)V"⟩
theorem wcY_end : Cond.code yY_end prog_4_method_4_code 3 none ∈ am_tbl := am_m3 (i := 89) rfl rfl
theorem wiY_end : Cond.instanceMethod yY_end ∈ am_tbl := am_m3 (i := 87) rfl rfl
theorem wsY_end : Cond.selects "MilkHorse$Day" yY_end yY_end ∈ am_tbl := am_m3 (i := 88) rfl rfl
def yW_lacking : MethodName := ⟨"MilkHorse$Walk", "lacking", "(LMilkHorse$Plan;)I"⟩
theorem wcW_lacking : Cond.code yW_lacking prog_11_method_13_code 4 (some .int) ∈ am_tbl := am_m3 (i := 93) rfl rfl
theorem wiW_lacking : Cond.instanceMethod yW_lacking ∈ am_tbl := am_m3 (i := 91) rfl rfl
theorem wsW_lacking : Cond.selects "MilkHorse$Walk" yW_lacking yW_lacking ∈ am_tbl := am_m3 (i := 92) rfl rfl
def yX_door : MethodName := ⟨"MilkHorse", "door", "(III)I"⟩
theorem wcX_door : Cond.code yX_door prog_1_method_13_code 4 (some .int) ∈ am_tbl := am_m3 (i := 97) rfl rfl
theorem wiX_door : Cond.instanceMethod yX_door ∈ am_tbl := am_m3 (i := 95) rfl rfl
theorem wsX_door : Cond.selects "MilkHorse" yX_door yX_door ∈ am_tbl := am_m3 (i := 96) rfl rfl
def yX_done : MethodName := ⟨"MilkHorse", "done", "(I)I"⟩
theorem wcX_done : Cond.code yX_done prog_1_method_14_code 2 (some .int) ∈ am_tbl := am_m3 (i := 101) rfl rfl
theorem wiX_done : Cond.instanceMethod yX_done ∈ am_tbl := am_m3 (i := 99) rfl rfl
theorem wsX_done : Cond.selects "MilkHorse" yX_done yX_done ∈ am_tbl := am_m3 (i := 100) rfl rfl
def yX_sum : MethodName := ⟨"MilkHorse", "sum", "(I)I"⟩
theorem wcX_sum : Cond.code yX_sum prog_1_method_15_code 2 (some .int) ∈ am_tbl := am_m3 (i := 105) rfl rfl
theorem wiX_sum : Cond.instanceMethod yX_sum ∈ am_tbl := am_m3 (i := 103) rfl rfl
theorem wsX_sum : Cond.selects "MilkHorse" yX_sum yX_sum ∈ am_tbl := am_m3 (i := 104) rfl rfl
def yX_over : MethodName := ⟨"MilkHorse", "over", "()I"⟩
theorem wcX_over : Cond.code yX_over prog_1_method_16_code 1 (some .int) ∈ am_tbl := am_m3 (i := 109) rfl rfl
theorem wiX_over : Cond.instanceMethod yX_over ∈ am_tbl := am_m3 (i := 107) rfl rfl
theorem wsX_over : Cond.selects "MilkHorse" yX_over yX_over ∈ am_tbl := am_m3 (i := 108) rfl rfl
def yX_lacks : MethodName := ⟨"MilkHorse", "lacks", "()I"⟩
theorem wcX_lacks : Cond.code yX_lacks prog_1_method_17_code 1 (some .int) ∈ am_tbl := am_m3 (i := 113) rfl rfl
theorem wiX_lacks : Cond.instanceMethod yX_lacks ∈ am_tbl := am_m3 (i := 111) rfl rfl
theorem wsX_lacks : Cond.selects "MilkHorse" yX_lacks yX_lacks ∈ am_tbl := am_m3 (i := 112) rfl rfl
def yX_better : MethodName := ⟨"MilkHorse", "better", "(I)I"⟩
theorem wcX_better : Cond.code yX_better prog_1_method_18_code 3 (some .int) ∈ am_tbl := am_m3 (i := 117) rfl rfl
theorem wiX_better : Cond.instanceMethod yX_better ∈ am_tbl := am_m3 (i := 115) rfl rfl
theorem wsX_better : Cond.selects "MilkHorse" yX_better yX_better ∈ am_tbl := am_m3 (i := 116) rfl rfl
def yO_clear : MethodName := ⟨"MilkHorse$Choice", "clear", "()V"⟩
theorem wcO_clear : Cond.code yO_clear prog_3_method_2_code 1 none ∈ am_tbl := am_m3 (i := 121) rfl rfl
theorem wiO_clear : Cond.instanceMethod yO_clear ∈ am_tbl := am_m3 (i := 119) rfl rfl
theorem wsO_clear : Cond.selects "MilkHorse$Choice" yO_clear yO_clear ∈ am_tbl := am_m3 (i := 120) rfl rfl
def yP_take : MethodName := ⟨"MilkHorse$Plan", "take", "(LMilkHorse$Plan;)V"⟩
theorem wcP_take : Cond.code yP_take prog_6_method_2_code 2 none ∈ am_tbl := am_m3 (i := 125) rfl rfl
theorem wiP_take : Cond.instanceMethod yP_take ∈ am_tbl := am_m3 (i := 123) rfl rfl
theorem wsP_take : Cond.selects "MilkHorse$Plan" yP_take yP_take ∈ am_tbl := am_m3 (i := 124) rfl rfl
def yW_howManyLack : MethodName := ⟨"MilkHorse$Walk", "howManyLack", "(LMilkHorse$Plan;)I"⟩
theorem wcW_howManyLack : Cond.code yW_howManyLack prog_11_method_14_code 2 (some .int) ∈ am_tbl := am_m3 (i := 130) rfl rfl
theorem wiW_howManyLack : Cond.instanceMethod yW_howManyLack ∈ am_tbl := am_m3 (i := 128) rfl rfl
theorem wsW_howManyLack : Cond.selects "MilkHorse$Walk" yW_howManyLack yW_howManyLack ∈ am_tbl := am_m3 (i := 129) rfl rfl
def yJ_bitCount : MethodName := ⟨"java/lang/Integer", "bitCount", "(I)I"⟩
theorem wcJ_bitCount : Cond.code yJ_bitCount prog_14_method_49_code 1 (some .int) ∈ am_tbl := am_m3 (i := 134) rfl rfl
theorem wtJ_bitCount : Cond.static yJ_bitCount ∈ am_tbl := am_m3 (i := 133) rfl rfl
def yO_offer : MethodName := ⟨"MilkHorse$Choice", "offer", "(IIII)V"⟩
theorem wcO_offer : Cond.code yO_offer prog_3_method_3_code 6 none ∈ am_tbl := am_m3 (i := 141) rfl rfl
theorem wiO_offer : Cond.instanceMethod yO_offer ∈ am_tbl := am_m3 (i := 139) rfl rfl
theorem wsO_offer : Cond.selects "MilkHorse$Choice" yO_offer yO_offer ∈ am_tbl := am_m3 (i := 140) rfl rfl
def yO_ofOne : MethodName := ⟨"MilkHorse$Choice", "ofOne", "(I)I"⟩
theorem wcO_ofOne : Cond.code yO_ofOne prog_3_method_4_code 2 (some .int) ∈ am_tbl := am_m3 (i := 145) rfl rfl
theorem wiO_ofOne : Cond.instanceMethod yO_ofOne ∈ am_tbl := am_m3 (i := 143) rfl rfl
theorem wsO_ofOne : Cond.selects "MilkHorse$Choice" yO_ofOne yO_ofOne ∈ am_tbl := am_m3 (i := 144) rfl rfl
def yX_fit : MethodName := ⟨"MilkHorse", "fit", "(I)I"⟩
theorem wcX_fit : Cond.code yX_fit prog_1_method_19_code 3 (some .int) ∈ am_tbl := am_m3 (i := 149) rfl rfl
theorem wiX_fit : Cond.instanceMethod yX_fit ∈ am_tbl := am_m3 (i := 147) rfl rfl
theorem wsX_fit : Cond.selects "MilkHorse" yX_fit yX_fit ∈ am_tbl := am_m3 (i := 148) rfl rfl
def yX_swap : MethodName := ⟨"MilkHorse", "swap", "(I)I"⟩
theorem wcX_swap : Cond.code yX_swap prog_1_method_20_code 2 (some .int) ∈ am_tbl := am_m3 (i := 153) rfl rfl
theorem wiX_swap : Cond.instanceMethod yX_swap ∈ am_tbl := am_m3 (i := 151) rfl rfl
theorem wsX_swap : Cond.selects "MilkHorse" yX_swap yX_swap ∈ am_tbl := am_m3 (i := 152) rfl rfl
def yX_learnSwaps : MethodName := ⟨"MilkHorse", "learnSwaps", "()V"⟩
theorem wcX_learnSwaps : Cond.code yX_learnSwaps prog_1_method_50_code 4 none ∈ am_tbl := am_m3 (i := 157) rfl rfl
theorem wiX_learnSwaps : Cond.instanceMethod yX_learnSwaps ∈ am_tbl := am_m3 (i := 156) rfl rfl
theorem wsX_learnSwaps : Cond.selects "MilkHorse" yX_learnSwaps yX_learnSwaps ∈ am_tbl := am_memS (i := 16) (by decide +kernel) (by decide +kernel)
def yX_spare : MethodName := ⟨"MilkHorse", "spare", "(I)I"⟩
theorem wcX_spare : Cond.code yX_spare prog_1_method_21_code 2 (some .int) ∈ am_tbl := am_m3 (i := 162) rfl rfl
theorem wiX_spare : Cond.instanceMethod yX_spare ∈ am_tbl := am_m3 (i := 160) rfl rfl
theorem wsX_spare : Cond.selects "MilkHorse" yX_spare yX_spare ∈ am_tbl := am_m3 (i := 161) rfl rfl
def yX_learnSpared : MethodName := ⟨"MilkHorse", "learnSpared", "()V"⟩
theorem wcX_learnSpared : Cond.code yX_learnSpared prog_1_method_51_code 3 none ∈ am_tbl := am_m3 (i := 166) rfl rfl
theorem wiX_learnSpared : Cond.instanceMethod yX_learnSpared ∈ am_tbl := am_m3 (i := 165) rfl rfl
theorem wsX_learnSpared : Cond.selects "MilkHorse" yX_learnSpared yX_learnSpared ∈ am_tbl := am_memS (i := 17) (by decide +kernel) (by decide +kernel)
def yQ_keep : MethodName := ⟨"MilkHorse$Spared", "keep", "(III)V"⟩
theorem wcQ_keep : Cond.code yQ_keep prog_9_method_2_code 4 none ∈ am_tbl := am_m3 (i := 170) rfl rfl
theorem wiQ_keep : Cond.instanceMethod yQ_keep ∈ am_tbl := am_m3 (i := 168) rfl rfl
theorem wsQ_keep : Cond.selects "MilkHorse$Spared" yQ_keep yQ_keep ∈ am_tbl := am_m3 (i := 169) rfl rfl
def yX_isWellWithout : MethodName := ⟨"MilkHorse", "isWellWithout", "(I)Z"⟩
theorem wcX_isWellWithout : Cond.code yX_isWellWithout prog_1_method_52_code 2 (some .boolean) ∈ am_tbl := am_m3 (i := 174) rfl rfl
theorem wiX_isWellWithout : Cond.instanceMethod yX_isWellWithout ∈ am_tbl := am_m3 (i := 173) rfl rfl
theorem wsX_isWellWithout : Cond.selects "MilkHorse" yX_isWellWithout yX_isWellWithout ∈ am_tbl := am_memS (i := 18) (by decide +kernel) (by decide +kernel)
def yX_seen : MethodName := ⟨"MilkHorse", "seen", "(II)I"⟩
theorem wcX_seen : Cond.code yX_seen prog_1_method_22_code 3 (some .int) ∈ am_tbl := am_m3 (i := 179) rfl rfl
theorem wiX_seen : Cond.instanceMethod yX_seen ∈ am_tbl := am_m3 (i := 177) rfl rfl
theorem wsX_seen : Cond.selects "MilkHorse" yX_seen yX_seen ∈ am_tbl := am_m3 (i := 178) rfl rfl
def yS_add : MethodName := ⟨"MilkHorse$Sights", "add", "(II)I"⟩
theorem wcS_add : Cond.code yS_add prog_8_method_2_code 3 (some .int) ∈ am_tbl := am_m3 (i := 183) rfl rfl
theorem wiS_add : Cond.instanceMethod yS_add ∈ am_tbl := am_m3 (i := 181) rfl rfl
theorem wsS_add : Cond.selects "MilkHorse$Sights" yS_add yS_add ∈ am_tbl := am_m3 (i := 182) rfl rfl
def yX_forget : MethodName := ⟨"MilkHorse", "forget", "()I"⟩
theorem wcX_forget : Cond.code yX_forget prog_1_method_23_code 1 (some .int) ∈ am_tbl := am_m3 (i := 187) rfl rfl
theorem wiX_forget : Cond.instanceMethod yX_forget ∈ am_tbl := am_m3 (i := 185) rfl rfl
theorem wsX_forget : Cond.selects "MilkHorse" yX_forget yX_forget ∈ am_tbl := am_m3 (i := 186) rfl rfl
def yS_clear : MethodName := ⟨"MilkHorse$Sights", "clear", "()I"⟩
theorem wcS_clear : Cond.code yS_clear prog_8_method_3_code 2 (some .int) ∈ am_tbl := am_m3 (i := 191) rfl rfl
theorem wiS_clear : Cond.instanceMethod yS_clear ∈ am_tbl := am_m3 (i := 189) rfl rfl
theorem wsS_clear : Cond.selects "MilkHorse$Sights" yS_clear yS_clear ∈ am_tbl := am_m3 (i := 190) rfl rfl
def yX_never : MethodName := ⟨"MilkHorse", "never", "()I"⟩
theorem wcX_never : Cond.code yX_never prog_1_method_24_code 3 (some .int) ∈ am_tbl := am_m3 (i := 195) rfl rfl
theorem wiX_never : Cond.instanceMethod yX_never ∈ am_tbl := am_m3 (i := 193) rfl rfl
theorem wsX_never : Cond.selects "MilkHorse" yX_never yX_never ∈ am_tbl := am_m3 (i := 194) rfl rfl
def yX_comesOutAsSeen : MethodName := ⟨"MilkHorse", "comesOutAsSeen", "()Z"⟩
theorem wcX_comesOutAsSeen : Cond.code yX_comesOutAsSeen prog_1_method_54_code 1 (some .boolean) ∈ am_tbl := am_m3 (i := 199) rfl rfl
theorem wiX_comesOutAsSeen : Cond.instanceMethod yX_comesOutAsSeen ∈ am_tbl := am_m3 (i := 198) rfl rfl
theorem wsX_comesOutAsSeen : Cond.selects "MilkHorse" yX_comesOutAsSeen yX_comesOutAsSeen ∈ am_tbl := am_memS (i := 19) (by decide +kernel) (by decide +kernel)
def yS_agreeWith : MethodName := ⟨"MilkHorse$Sights", "agreeWith", "([I)Z"⟩
theorem wcS_agreeWith : Cond.code yS_agreeWith prog_8_method_4_code 4 (some .boolean) ∈ am_tbl := am_m3 (i := 203) rfl rfl
theorem wiS_agreeWith : Cond.instanceMethod yS_agreeWith ∈ am_tbl := am_m3 (i := 201) rfl rfl
theorem wsS_agreeWith : Cond.selects "MilkHorse$Sights" yS_agreeWith yS_agreeWith ∈ am_tbl := am_m3 (i := 202) rfl rfl
def yX_numbers : MethodName := ⟨"MilkHorse", "numbers", "(I)I"⟩
theorem wcX_numbers : Cond.code yX_numbers prog_1_method_25_code 4 (some .int) ∈ am_tbl := am_m3 (i := 207) rfl rfl
theorem wiX_numbers : Cond.instanceMethod yX_numbers ∈ am_tbl := am_m3 (i := 205) rfl rfl
theorem wsX_numbers : Cond.selects "MilkHorse" yX_numbers yX_numbers ∈ am_tbl := am_m3 (i := 206) rfl rfl
def yX_might : MethodName := ⟨"MilkHorse", "might", "(I)I"⟩
theorem wcX_might : Cond.code yX_might prog_1_method_26_code 6 (some .int) ∈ am_tbl := am_m3 (i := 211) rfl rfl
theorem wiX_might : Cond.instanceMethod yX_might ∈ am_tbl := am_m3 (i := 209) rfl rfl
theorem wsX_might : Cond.selects "MilkHorse" yX_might yX_might ∈ am_tbl := am_m3 (i := 210) rfl rfl
def yX_ask : MethodName := ⟨"MilkHorse", "ask", "()I"⟩
theorem wcX_ask : Cond.code yX_ask prog_1_method_27_code 6 (some .int) ∈ am_tbl := am_m3 (i := 215) rfl rfl
theorem wiX_ask : Cond.instanceMethod yX_ask ∈ am_tbl := am_m3 (i := 213) rfl rfl
theorem wsX_ask : Cond.selects "MilkHorse" yX_ask yX_ask ∈ am_tbl := am_m3 (i := 214) rfl rfl
def yX_gatherCrowds : MethodName := ⟨"MilkHorse", "gatherCrowds", "()V"⟩
theorem wcX_gatherCrowds : Cond.code yX_gatherCrowds prog_1_method_55_code 4 none ∈ am_tbl := am_m3 (i := 219) rfl rfl
theorem wiX_gatherCrowds : Cond.instanceMethod yX_gatherCrowds ∈ am_tbl := am_m3 (i := 218) rfl rfl
theorem wsX_gatherCrowds : Cond.selects "MilkHorse" yX_gatherCrowds yX_gatherCrowds ∈ am_tbl := am_memS (i := 20) (by decide +kernel) (by decide +kernel)
def yX_chance : MethodName := ⟨"MilkHorse", "chance", "(III)J"⟩
theorem wcX_chance : Cond.code yX_chance prog_1_method_28_code 9 (some .long) ∈ am_tbl := am_m3 (i := 225) rfl rfl
theorem wiX_chance : Cond.instanceMethod yX_chance ∈ am_tbl := am_m3 (i := 223) rfl rfl
theorem wsX_chance : Cond.selects "MilkHorse" yX_chance yX_chance ∈ am_tbl := am_m3 (i := 224) rfl rfl
def yX_learnChances : MethodName := ⟨"MilkHorse", "learnChances", "()V"⟩
theorem wcX_learnChances : Cond.code yX_learnChances prog_1_method_53_code 2 none ∈ am_tbl := am_m3 (i := 230) rfl rfl
theorem wiX_learnChances : Cond.instanceMethod yX_learnChances ∈ am_tbl := am_m3 (i := 229) rfl rfl
theorem wsX_learnChances : Cond.selects "MilkHorse" yX_learnChances yX_learnChances ∈ am_tbl := am_memS (i := 21) (by decide +kernel) (by decide +kernel)
def yH_weigh : MethodName := ⟨"MilkHorse$Chances", "weigh", "(III)J"⟩
theorem wcH_weigh : Cond.code yH_weigh prog_2_method_2_code 7 (some .long) ∈ am_tbl := am_m3 (i := 234) rfl rfl
theorem wiH_weigh : Cond.instanceMethod yH_weigh ∈ am_tbl := am_m3 (i := 232) rfl rfl
theorem wsH_weigh : Cond.selects "MilkHorse$Chances" yH_weigh yH_weigh ∈ am_tbl := am_m3 (i := 233) rfl rfl
def yH_weight : MethodName := ⟨"MilkHorse$Chances", "weight", "(III)J"⟩
theorem wcH_weight : Cond.code yH_weight prog_2_method_3_code 6 (some .long) ∈ am_tbl := am_m3 (i := 237) rfl rfl
theorem wtH_weight : Cond.static yH_weight ∈ am_tbl := am_m3 (i := 236) rfl rfl
def yX_mornings : MethodName := ⟨"MilkHorse", "mornings", "(III)I"⟩
theorem wcX_mornings : Cond.code yX_mornings prog_1_method_29_code 6 (some .int) ∈ am_tbl := am_m4 (i := 3) rfl rfl
theorem wiX_mornings : Cond.instanceMethod yX_mornings ∈ am_tbl := am_m4 (i := 1) rfl rfl
theorem wsX_mornings : Cond.selects "MilkHorse" yX_mornings yX_mornings ∈ am_tbl := am_m4 (i := 2) rfl rfl
def yX_sheet : MethodName := ⟨"MilkHorse", "sheet", "(III)I"⟩
theorem wcX_sheet : Cond.code yX_sheet prog_1_method_30_code 5 (some .int) ∈ am_tbl := am_m4 (i := 8) rfl rfl
theorem wiX_sheet : Cond.instanceMethod yX_sheet ∈ am_tbl := am_m4 (i := 6) rfl rfl
theorem wsX_sheet : Cond.selects "MilkHorse" yX_sheet yX_sheet ∈ am_tbl := am_m4 (i := 7) rfl rfl
def yX_isForm : MethodName := ⟨"MilkHorse", "isForm", "(I)Z"⟩
theorem wcX_isForm : Cond.code yX_isForm prog_1_method_43_code 1 (some .boolean) ∈ am_tbl := am_m4 (i := 11) rfl rfl
theorem wtX_isForm : Cond.static yX_isForm ∈ am_tbl := am_m4 (i := 10) rfl rfl
def yG_begin : MethodName := ⟨"MilkHorse$Sheet", "begin", "(II)V"⟩
theorem wcG_begin : Cond.code yG_begin prog_7_method_2_code 3 none ∈ am_tbl := am_m4 (i := 15) rfl rfl
theorem wiG_begin : Cond.instanceMethod yG_begin ∈ am_tbl := am_m4 (i := 13) rfl rfl
theorem wsG_begin : Cond.selects "MilkHorse$Sheet" yG_begin yG_begin ∈ am_tbl := am_m4 (i := 14) rfl rfl
def yX_lose : MethodName := ⟨"MilkHorse", "lose", "(I)I"⟩
theorem wcX_lose : Cond.code yX_lose prog_1_method_31_code 3 (some .int) ∈ am_tbl := am_m4 (i := 20) rfl rfl
theorem wiX_lose : Cond.instanceMethod yX_lose ∈ am_tbl := am_m4 (i := 18) rfl rfl
theorem wsX_lose : Cond.selects "MilkHorse" yX_lose yX_lose ∈ am_tbl := am_m4 (i := 19) rfl rfl
def yX_put : MethodName := ⟨"MilkHorse", "put", "(IIII)I"⟩
theorem wcX_put : Cond.code yX_put prog_1_method_32_code 7 (some .int) ∈ am_tbl := am_m4 (i := 24) rfl rfl
theorem wiX_put : Cond.instanceMethod yX_put ∈ am_tbl := am_m4 (i := 22) rfl rfl
theorem wsX_put : Cond.selects "MilkHorse" yX_put yX_put ∈ am_tbl := am_m4 (i := 23) rfl rfl
def yG_refusal : MethodName := ⟨"MilkHorse$Sheet", "refusal", "(II)I"⟩
theorem wcG_refusal : Cond.code yG_refusal prog_7_method_3_code 3 (some .int) ∈ am_tbl := am_m4 (i := 28) rfl rfl
theorem wiG_refusal : Cond.instanceMethod yG_refusal ∈ am_tbl := am_m4 (i := 26) rfl rfl
theorem wsG_refusal : Cond.selects "MilkHorse$Sheet" yG_refusal yG_refusal ∈ am_tbl := am_m4 (i := 27) rfl rfl
def yG_keep : MethodName := ⟨"MilkHorse$Sheet", "keep", "(II)V"⟩
theorem wcG_keep : Cond.code yG_keep prog_7_method_4_code 3 none ∈ am_tbl := am_m4 (i := 32) rfl rfl
theorem wiG_keep : Cond.instanceMethod yG_keep ∈ am_tbl := am_m4 (i := 30) rfl rfl
theorem wsG_keep : Cond.selects "MilkHorse$Sheet" yG_keep yG_keep ∈ am_tbl := am_m4 (i := 31) rfl rfl
def yX_get : MethodName := ⟨"MilkHorse", "get", "(III)I"⟩
theorem wcX_get : Cond.code yX_get prog_1_method_33_code 6 (some .int) ∈ am_tbl := am_m4 (i := 36) rfl rfl
theorem wiX_get : Cond.instanceMethod yX_get ∈ am_tbl := am_m4 (i := 34) rfl rfl
theorem wsX_get : Cond.selects "MilkHorse" yX_get yX_get ∈ am_tbl := am_m4 (i := 35) rfl rfl
def yG_item : MethodName := ⟨"MilkHorse$Sheet", "item", "(I)I"⟩
theorem wcG_item : Cond.code yG_item prog_7_method_5_code 2 (some .int) ∈ am_tbl := am_m4 (i := 41) rfl rfl
theorem wiG_item : Cond.instanceMethod yG_item ∈ am_tbl := am_m4 (i := 39) rfl rfl
theorem wsG_item : Cond.selects "MilkHorse$Sheet" yG_item yG_item ∈ am_tbl := am_m4 (i := 40) rfl rfl
def yX_copy : MethodName := ⟨"MilkHorse", "copy", "(IIIII)I"⟩
theorem wcX_copy : Cond.code yX_copy prog_1_method_34_code 8 (some .int) ∈ am_tbl := am_m4 (i := 45) rfl rfl
theorem wiX_copy : Cond.instanceMethod yX_copy ∈ am_tbl := am_m4 (i := 43) rfl rfl
theorem wsX_copy : Cond.selects "MilkHorse" yX_copy yX_copy ∈ am_tbl := am_m4 (i := 44) rfl rfl
def yG_holds : MethodName := ⟨"MilkHorse$Sheet", "holds", "(II)Z"⟩
theorem wcG_holds : Cond.code yG_holds prog_7_method_6_code 3 (some .boolean) ∈ am_tbl := am_m4 (i := 49) rfl rfl
theorem wiG_holds : Cond.instanceMethod yG_holds ∈ am_tbl := am_m4 (i := 47) rfl rfl
theorem wsG_holds : Cond.selects "MilkHorse$Sheet" yG_holds yG_holds ∈ am_tbl := am_m4 (i := 48) rfl rfl
def yX_write : MethodName := ⟨"MilkHorse", "write", "(II)I"⟩
theorem wcX_write : Cond.code yX_write prog_1_method_35_code 6 (some .int) ∈ am_tbl := am_m4 (i := 54) rfl rfl
theorem wiX_write : Cond.instanceMethod yX_write ∈ am_tbl := am_m4 (i := 52) rfl rfl
theorem wsX_write : Cond.selects "MilkHorse" yX_write yX_write ∈ am_tbl := am_m4 (i := 53) rfl rfl
def yX_count : MethodName := ⟨"MilkHorse", "count", "(I)I"⟩
theorem wcX_count : Cond.code yX_count prog_1_method_36_code 2 (some .int) ∈ am_tbl := am_m4 (i := 58) rfl rfl
theorem wiX_count : Cond.instanceMethod yX_count ∈ am_tbl := am_m4 (i := 56) rfl rfl
theorem wsX_count : Cond.selects "MilkHorse" yX_count yX_count ∈ am_tbl := am_m4 (i := 57) rfl rfl
def yX_digest : MethodName := ⟨"MilkHorse", "digest", "()J"⟩
theorem wcX_digest : Cond.code yX_digest prog_1_method_37_code 4 (some .long) ∈ am_tbl := am_m4 (i := 64) rfl rfl
theorem wiX_digest : Cond.instanceMethod yX_digest ∈ am_tbl := am_m4 (i := 62) rfl rfl
theorem wsX_digest : Cond.selects "MilkHorse" yX_digest yX_digest ∈ am_tbl := am_m4 (i := 63) rfl rfl
def yX_mixTold : MethodName := ⟨"MilkHorse", "mixTold", "(J)J"⟩
theorem wcX_mixTold : Cond.code yX_mixTold prog_1_method_38_code 6 (some .long) ∈ am_tbl := am_m4 (i := 69) rfl rfl
theorem wiX_mixTold : Cond.instanceMethod yX_mixTold ∈ am_tbl := am_m4 (i := 68) rfl rfl
theorem wsX_mixTold : Cond.selects "MilkHorse" yX_mixTold yX_mixTold ∈ am_tbl := am_memS (i := 22) (by decide +kernel) (by decide +kernel)
def yX_mixMinutes : MethodName := ⟨"MilkHorse", "mixMinutes", "(J)J"⟩
theorem wcX_mixMinutes : Cond.code yX_mixMinutes prog_1_method_39_code 7 (some .long) ∈ am_tbl := am_m4 (i := 77) rfl rfl
theorem wiX_mixMinutes : Cond.instanceMethod yX_mixMinutes ∈ am_tbl := am_m4 (i := 76) rfl rfl
theorem wsX_mixMinutes : Cond.selects "MilkHorse" yX_mixMinutes yX_mixMinutes ∈ am_tbl := am_memS (i := 23) (by decide +kernel) (by decide +kernel)
def yX_mixDoor : MethodName := ⟨"MilkHorse", "mixDoor", "(JI)J"⟩
theorem wcX_mixDoor : Cond.code yX_mixDoor prog_1_method_40_code 7 (some .long) ∈ am_tbl := am_m4 (i := 82) rfl rfl
theorem wiX_mixDoor : Cond.instanceMethod yX_mixDoor ∈ am_tbl := am_m4 (i := 81) rfl rfl
theorem wsX_mixDoor : Cond.selects "MilkHorse" yX_mixDoor yX_mixDoor ∈ am_tbl := am_memS (i := 24) (by decide +kernel) (by decide +kernel)
def yM_type : MethodName := ⟨"MilkHorseModel", "type", "(II)I"⟩
theorem wcM_type : Cond.code yM_type prog_13_method_13_code 3 (some .int) ∈ am_tbl := am_m5 (i := 25) rfl rfl
theorem wiM_type : Cond.instanceMethod yM_type ∈ am_tbl := am_m5 (i := 23) rfl rfl
theorem wsM_type : Cond.selects "MilkHorseModel" yM_type yM_type ∈ am_tbl := am_m5 (i := 24) rfl rfl
def yM_isText : MethodName := ⟨"MilkHorseModel", "isText", "(I)Z"⟩
theorem wcM_isText : Cond.code yM_isText prog_13_method_8_code 1 (some .boolean) ∈ am_tbl := am_m5 (i := 28) rfl rfl
theorem wtM_isText : Cond.static yM_isText ∈ am_tbl := am_m5 (i := 27) rfl rfl
def yM_in : MethodName := ⟨"MilkHorseModel", "in", "(III)Z"⟩
theorem wcM_in : Cond.code yM_in prog_13_method_3_code 3 (some .boolean) ∈ am_tbl := am_m5 (i := 31) rfl rfl
theorem wtM_in : Cond.static yM_in ∈ am_tbl := am_m5 (i := 30) rfl rfl
def yM_wipe : MethodName := ⟨"MilkHorseModel", "wipe", "(I)I"⟩
theorem wcM_wipe : Cond.code yM_wipe prog_13_method_14_code 3 (some .int) ∈ am_tbl := am_m5 (i := 35) rfl rfl
theorem wiM_wipe : Cond.instanceMethod yM_wipe ∈ am_tbl := am_m5 (i := 33) rfl rfl
theorem wsM_wipe : Cond.selects "MilkHorseModel" yM_wipe yM_wipe ∈ am_tbl := am_m5 (i := 34) rfl rfl
def yM_undo : MethodName := ⟨"MilkHorseModel", "undo", "(I)I"⟩
theorem wcM_undo : Cond.code yM_undo prog_13_method_15_code 2 (some .int) ∈ am_tbl := am_m5 (i := 39) rfl rfl
theorem wiM_undo : Cond.instanceMethod yM_undo ∈ am_tbl := am_m5 (i := 37) rfl rfl
theorem wsM_undo : Cond.selects "MilkHorseModel" yM_undo yM_undo ∈ am_tbl := am_m5 (i := 38) rfl rfl
def yM_fault : MethodName := ⟨"MilkHorseModel", "fault", "(I)I"⟩
theorem wcM_fault : Cond.code yM_fault prog_13_method_18_code 2 (some .int) ∈ am_tbl := am_m5 (i := 43) rfl rfl
theorem wiM_fault : Cond.instanceMethod yM_fault ∈ am_tbl := am_m5 (i := 41) rfl rfl
theorem wsM_fault : Cond.selects "MilkHorseModel" yM_fault yM_fault ∈ am_tbl := am_m5 (i := 42) rfl rfl
def yM_faultOf : MethodName := ⟨"MilkHorseModel", "faultOf", "(I)I"⟩
theorem wcM_faultOf : Cond.code yM_faultOf prog_13_method_16_code 4 (some .int) ∈ am_tbl := am_m5 (i := 47) rfl rfl
theorem wiM_faultOf : Cond.instanceMethod yM_faultOf ∈ am_tbl := am_m5 (i := 46) rfl rfl
theorem wsM_faultOf : Cond.selects "MilkHorseModel" yM_faultOf yM_faultOf ∈ am_tbl := am_memS (i := 25) (by decide +kernel) (by decide +kernel)
def yM_told : MethodName := ⟨"MilkHorseModel", "told", "(II)I"⟩
theorem wcM_told : Cond.code yM_told prog_13_method_20_code 3 (some .int) ∈ am_tbl := am_m5 (i := 51) rfl rfl
theorem wiM_told : Cond.instanceMethod yM_told ∈ am_tbl := am_m5 (i := 49) rfl rfl
theorem wsM_told : Cond.selects "MilkHorseModel" yM_told yM_told ∈ am_tbl := am_m5 (i := 50) rfl rfl
def yM_isDoor : MethodName := ⟨"MilkHorseModel", "isDoor", "(I)Z"⟩
theorem wcM_isDoor : Cond.code yM_isDoor prog_13_method_10_code 1 (some .boolean) ∈ am_tbl := am_m5 (i := 54) rfl rfl
theorem wtM_isDoor : Cond.static yM_isDoor ∈ am_tbl := am_m5 (i := 53) rfl rfl
def yM_isTwo : MethodName := ⟨"MilkHorseModel", "isTwo", "(I)Z"⟩
theorem wcM_isTwo : Cond.code yM_isTwo prog_13_method_11_code 1 (some .boolean) ∈ am_tbl := am_m5 (i := 57) rfl rfl
theorem wtM_isTwo : Cond.static yM_isTwo ∈ am_tbl := am_m5 (i := 56) rfl rfl
def yM_toldOf : MethodName := ⟨"MilkHorseModel", "toldOf", "(II)I"⟩
theorem wcM_toldOf : Cond.code yM_toldOf prog_13_method_19_code 3 (some .int) ∈ am_tbl := am_m5 (i := 61) rfl rfl
theorem wiM_toldOf : Cond.instanceMethod yM_toldOf ∈ am_tbl := am_m5 (i := 60) rfl rfl
theorem wsM_toldOf : Cond.selects "MilkHorseModel" yM_toldOf yM_toldOf ∈ am_tbl := am_memS (i := 26) (by decide +kernel) (by decide +kernel)
def yM_reads : MethodName := ⟨"MilkHorseModel", "reads", "()V"⟩
theorem wcM_reads : Cond.code yM_reads prog_13_method_17_code 4 none ∈ am_tbl := am_m5 (i := 65) rfl rfl
theorem wiM_reads : Cond.instanceMethod yM_reads ∈ am_tbl := am_m5 (i := 64) rfl rfl
theorem wsM_reads : Cond.selects "MilkHorseModel" yM_reads yM_reads ∈ am_tbl := am_memS (i := 27) (by decide +kernel) (by decide +kernel)
def yM_round : MethodName := ⟨"MilkHorseModel", "round", "(I)I"⟩
theorem wcM_round : Cond.code yM_round prog_13_method_22_code 2 (some .int) ∈ am_tbl := am_m5 (i := 69) rfl rfl
theorem wiM_round : Cond.instanceMethod yM_round ∈ am_tbl := am_m5 (i := 67) rfl rfl
theorem wsM_round : Cond.selects "MilkHorseModel" yM_round yM_round ∈ am_tbl := am_m5 (i := 68) rfl rfl
def yM_roundOf : MethodName := ⟨"MilkHorseModel", "roundOf", "(I)I"⟩
theorem wcM_roundOf : Cond.code yM_roundOf prog_13_method_21_code 2 (some .int) ∈ am_tbl := am_m5 (i := 73) rfl rfl
theorem wiM_roundOf : Cond.instanceMethod yM_roundOf ∈ am_tbl := am_m5 (i := 72) rfl rfl
theorem wsM_roundOf : Cond.selects "MilkHorseModel" yM_roundOf yM_roundOf ∈ am_tbl := am_memS (i := 28) (by decide +kernel) (by decide +kernel)
def yM_set : MethodName := ⟨"MilkHorseModel", "set", "(II)I"⟩
theorem wcM_set : Cond.code yM_set prog_13_method_23_code 4 (some .int) ∈ am_tbl := am_m5 (i := 77) rfl rfl
theorem wiM_set : Cond.instanceMethod yM_set ∈ am_tbl := am_m5 (i := 75) rfl rfl
theorem wsM_set : Cond.selects "MilkHorseModel" yM_set yM_set ∈ am_tbl := am_m5 (i := 76) rfl rfl
def yM_isThree : MethodName := ⟨"MilkHorseModel", "isThree", "(I)Z"⟩
theorem wcM_isThree : Cond.code yM_isThree prog_13_method_12_code 1 (some .boolean) ∈ am_tbl := am_m5 (i := 80) rfl rfl
theorem wtM_isThree : Cond.static yM_isThree ∈ am_tbl := am_m5 (i := 79) rfl rfl
def yM_event : MethodName := ⟨"MilkHorseModel", "event", "(III)I"⟩
theorem wcM_event : Cond.code yM_event prog_13_method_24_code 4 (some .int) ∈ am_tbl := am_m5 (i := 84) rfl rfl
theorem wiM_event : Cond.instanceMethod yM_event ∈ am_tbl := am_m5 (i := 82) rfl rfl
theorem wsM_event : Cond.selects "MilkHorseModel" yM_event yM_event ∈ am_tbl := am_m5 (i := 83) rfl rfl
def yM_isMinute : MethodName := ⟨"MilkHorseModel", "isMinute", "(I)Z"⟩
theorem wcM_isMinute : Cond.code yM_isMinute prog_13_method_9_code 1 (some .boolean) ∈ am_tbl := am_m5 (i := 87) rfl rfl
theorem wtM_isMinute : Cond.static yM_isMinute ∈ am_tbl := am_m5 (i := 86) rfl rfl
def yM_back : MethodName := ⟨"MilkHorseModel", "back", "()I"⟩
theorem wcM_back : Cond.code yM_back prog_13_method_25_code 1 (some .int) ∈ am_tbl := am_m5 (i := 91) rfl rfl
theorem wiM_back : Cond.instanceMethod yM_back ∈ am_tbl := am_m5 (i := 89) rfl rfl
theorem wsM_back : Cond.selects "MilkHorseModel" yM_back yM_back ∈ am_tbl := am_m5 (i := 90) rfl rfl
def yM_read : MethodName := ⟨"MilkHorseModel", "read", "(I)I"⟩
theorem wcM_read : Cond.code yM_read prog_13_method_26_code 4 (some .int) ∈ am_tbl := am_m5 (i := 95) rfl rfl
theorem wiM_read : Cond.instanceMethod yM_read ∈ am_tbl := am_m5 (i := 93) rfl rfl
theorem wsM_read : Cond.selects "MilkHorseModel" yM_read yM_read ∈ am_tbl := am_m5 (i := 94) rfl rfl
def yM_isSheet : MethodName := ⟨"MilkHorseModel", "isSheet", "(I)Z"⟩
theorem wcM_isSheet : Cond.code yM_isSheet prog_13_method_83_code 1 (some .boolean) ∈ am_tbl := am_m5 (i := 98) rfl rfl
theorem wtM_isSheet : Cond.static yM_isSheet ∈ am_tbl := am_m5 (i := 97) rfl rfl
def yM_meets : MethodName := ⟨"MilkHorseModel", "meets", "(I)I"⟩
theorem wcM_meets : Cond.code yM_meets prog_13_method_82_code 2 (some .int) ∈ am_tbl := am_m5 (i := 102) rfl rfl
theorem wiM_meets : Cond.instanceMethod yM_meets ∈ am_tbl := am_m5 (i := 101) rfl rfl
theorem wsM_meets : Cond.selects "MilkHorseModel" yM_meets yM_meets ∈ am_tbl := am_memS (i := 29) (by decide +kernel) (by decide +kernel)
def yM_at : MethodName := ⟨"MilkHorseModel", "at", "(II)I"⟩
theorem wcM_at : Cond.code yM_at prog_13_method_41_code 3 (some .int) ∈ am_tbl := am_m5 (i := 107) rfl rfl
theorem wiM_at : Cond.instanceMethod yM_at ∈ am_tbl := am_m5 (i := 105) rfl rfl
theorem wsM_at : Cond.selects "MilkHorseModel" yM_at yM_at ∈ am_tbl := am_m5 (i := 106) rfl rfl
def yM_atOf : MethodName := ⟨"MilkHorseModel", "atOf", "(II)I"⟩
theorem wcM_atOf : Cond.code yM_atOf prog_13_method_40_code 3 (some .int) ∈ am_tbl := am_m5 (i := 111) rfl rfl
theorem wiM_atOf : Cond.instanceMethod yM_atOf ∈ am_tbl := am_m5 (i := 110) rfl rfl
theorem wsM_atOf : Cond.selects "MilkHorseModel" yM_atOf yM_atOf ∈ am_tbl := am_memS (i := 30) (by decide +kernel) (by decide +kernel)
def yM_runsTold : MethodName := ⟨"MilkHorseModel", "runsTold", "()V"⟩
theorem wcM_runsTold : Cond.code yM_runsTold prog_13_method_39_code 1 none ∈ am_tbl := am_m5 (i := 115) rfl rfl
theorem wiM_runsTold : Cond.instanceMethod yM_runsTold ∈ am_tbl := am_m5 (i := 114) rfl rfl
theorem wsM_runsTold : Cond.selects "MilkHorseModel" yM_runsTold yM_runsTold ∈ am_tbl := am_memS (i := 31) (by decide +kernel) (by decide +kernel)
def yM_asTold : MethodName := ⟨"MilkHorseModel", "asTold", "()V"⟩
theorem wcM_asTold : Cond.code yM_asTold prog_13_method_27_code 2 none ∈ am_tbl := am_m5 (i := 119) rfl rfl
theorem wiM_asTold : Cond.instanceMethod yM_asTold ∈ am_tbl := am_m5 (i := 118) rfl rfl
theorem wsM_asTold : Cond.selects "MilkHorseModel" yM_asTold yM_asTold ∈ am_tbl := am_memS (i := 32) (by decide +kernel) (by decide +kernel)
def yM_runs : MethodName := ⟨"MilkHorseModel", "runs", "()V"⟩
theorem wcM_runs : Cond.code yM_runs prog_13_method_38_code 1 none ∈ am_tbl := am_m5 (i := 123) rfl rfl
theorem wiM_runs : Cond.instanceMethod yM_runs ∈ am_tbl := am_m5 (i := 122) rfl rfl
theorem wsM_runs : Cond.selects "MilkHorseModel" yM_runs yM_runs ∈ am_tbl := am_memS (i := 33) (by decide +kernel) (by decide +kernel)
def yM_runsBy : MethodName := ⟨"MilkHorseModel", "runsBy", "(I)V"⟩
theorem wcM_runsBy : Cond.code yM_runsBy prog_13_method_37_code 3 none ∈ am_tbl := am_m5 (i := 127) rfl rfl
theorem wiM_runsBy : Cond.instanceMethod yM_runsBy ∈ am_tbl := am_m5 (i := 126) rfl rfl
theorem wsM_runsBy : Cond.selects "MilkHorseModel" yM_runsBy yM_runsBy ∈ am_tbl := am_memS (i := 34) (by decide +kernel) (by decide +kernel)
def yM_goesBy : MethodName := ⟨"MilkHorseModel", "goesBy", "(I)V"⟩
theorem wcM_goesBy : Cond.code yM_goesBy prog_13_method_36_code 3 none ∈ am_tbl := am_m5 (i := 131) rfl rfl
theorem wiM_goesBy : Cond.instanceMethod yM_goesBy ∈ am_tbl := am_m5 (i := 130) rfl rfl
theorem wsM_goesBy : Cond.selects "MilkHorseModel" yM_goesBy yM_goesBy ∈ am_tbl := am_memS (i := 35) (by decide +kernel) (by decide +kernel)
def yM_befalls : MethodName := ⟨"MilkHorseModel", "befalls", "(I)V"⟩
theorem wcM_befalls : Cond.code yM_befalls prog_13_method_29_code 5 none ∈ am_tbl := am_m5 (i := 135) rfl rfl
theorem wiM_befalls : Cond.instanceMethod yM_befalls ∈ am_tbl := am_m5 (i := 134) rfl rfl
theorem wsM_befalls : Cond.selects "MilkHorseModel" yM_befalls yM_befalls ∈ am_tbl := am_memS (i := 36) (by decide +kernel) (by decide +kernel)
def yM_isIn : MethodName := ⟨"MilkHorseModel", "isIn", "(II)Z"⟩
theorem wcM_isIn : Cond.code yM_isIn prog_13_method_4_code 2 (some .boolean) ∈ am_tbl := am_m5 (i := 138) rfl rfl
theorem wtM_isIn : Cond.static yM_isIn ∈ am_tbl := am_m5 (i := 137) rfl rfl
def yM_towards : MethodName := ⟨"MilkHorseModel", "towards", "(II)I"⟩
theorem wcM_towards : Cond.code yM_towards prog_13_method_28_code 2 (some .int) ∈ am_tbl := am_m5 (i := 141) rfl rfl
theorem wtM_towards : Cond.static yM_towards ∈ am_tbl := am_m5 (i := 140) rfl rfl
def yM_does : MethodName := ⟨"MilkHorseModel", "does", "()I"⟩
theorem wcM_does : Cond.code yM_does prog_13_method_34_code 4 (some .int) ∈ am_tbl := am_m5 (i := 145) rfl rfl
theorem wiM_does : Cond.instanceMethod yM_does ∈ am_tbl := am_m5 (i := 144) rfl rfl
theorem wsM_does : Cond.selects "MilkHorseModel" yM_does yM_does ∈ am_tbl := am_memS (i := 37) (by decide +kernel) (by decide +kernel)
def yM_wanting : MethodName := ⟨"MilkHorseModel", "wanting", "(I)I"⟩
theorem wcM_wanting : Cond.code yM_wanting prog_13_method_30_code 2 (some .int) ∈ am_tbl := am_m5 (i := 149) rfl rfl
theorem wiM_wanting : Cond.instanceMethod yM_wanting ∈ am_tbl := am_m5 (i := 148) rfl rfl
theorem wsM_wanting : Cond.selects "MilkHorseModel" yM_wanting yM_wanting ∈ am_tbl := am_memS (i := 38) (by decide +kernel) (by decide +kernel)
def yM_goes : MethodName := ⟨"MilkHorseModel", "goes", "(I)I"⟩
theorem wcM_goes : Cond.code yM_goes prog_13_method_33_code 3 (some .int) ∈ am_tbl := am_m5 (i := 153) rfl rfl
theorem wiM_goes : Cond.instanceMethod yM_goes ∈ am_tbl := am_m5 (i := 152) rfl rfl
theorem wsM_goes : Cond.selects "MilkHorseModel" yM_goes yM_goes ∈ am_tbl := am_memS (i := 39) (by decide +kernel) (by decide +kernel)
def yM_fills : MethodName := ⟨"MilkHorseModel", "fills", "()I"⟩
theorem wcM_fills : Cond.code yM_fills prog_13_method_31_code 2 (some .int) ∈ am_tbl := am_m5 (i := 157) rfl rfl
theorem wiM_fills : Cond.instanceMethod yM_fills ∈ am_tbl := am_m5 (i := 156) rfl rfl
theorem wsM_fills : Cond.selects "MilkHorseModel" yM_fills yM_fills ∈ am_tbl := am_memS (i := 40) (by decide +kernel) (by decide +kernel)
def yM_less : MethodName := ⟨"MilkHorseModel", "less", "(II)I"⟩
theorem wcM_less : Cond.code yM_less prog_13_method_6_code 2 (some .int) ∈ am_tbl := am_m5 (i := 160) rfl rfl
theorem wtM_less : Cond.static yM_less ∈ am_tbl := am_m5 (i := 159) rfl rfl
def yM_serves : MethodName := ⟨"MilkHorseModel", "serves", "(I)I"⟩
theorem wcM_serves : Cond.code yM_serves prog_13_method_32_code 4 (some .int) ∈ am_tbl := am_m5 (i := 164) rfl rfl
theorem wiM_serves : Cond.instanceMethod yM_serves ∈ am_tbl := am_m5 (i := 163) rfl rfl
theorem wsM_serves : Cond.selects "MilkHorseModel" yM_serves yM_serves ∈ am_tbl := am_memS (i := 41) (by decide +kernel) (by decide +kernel)
def yM_follows : MethodName := ⟨"MilkHorseModel", "follows", "(I)V"⟩
theorem wcM_follows : Cond.code yM_follows prog_13_method_35_code 4 none ∈ am_tbl := am_m5 (i := 168) rfl rfl
theorem wiM_follows : Cond.instanceMethod yM_follows ∈ am_tbl := am_m5 (i := 167) rfl rfl
theorem wsM_follows : Cond.selects "MilkHorseModel" yM_follows yM_follows ∈ am_tbl := am_memS (i := 42) (by decide +kernel) (by decide +kernel)
def yM_door : MethodName := ⟨"MilkHorseModel", "door", "(III)I"⟩
theorem wcM_door : Cond.code yM_door prog_13_method_43_code 4 (some .int) ∈ am_tbl := am_m5 (i := 172) rfl rfl
theorem wiM_door : Cond.instanceMethod yM_door ∈ am_tbl := am_m5 (i := 170) rfl rfl
theorem wsM_door : Cond.selects "MilkHorseModel" yM_door yM_door ∈ am_tbl := am_m5 (i := 171) rfl rfl
def yM_doorOf : MethodName := ⟨"MilkHorseModel", "doorOf", "(III)I"⟩
theorem wcM_doorOf : Cond.code yM_doorOf prog_13_method_42_code 4 (some .int) ∈ am_tbl := am_m5 (i := 176) rfl rfl
theorem wiM_doorOf : Cond.instanceMethod yM_doorOf ∈ am_tbl := am_m5 (i := 175) rfl rfl
theorem wsM_doorOf : Cond.selects "MilkHorseModel" yM_doorOf yM_doorOf ∈ am_tbl := am_memS (i := 43) (by decide +kernel) (by decide +kernel)
def yM_done : MethodName := ⟨"MilkHorseModel", "done", "(I)I"⟩
theorem wcM_done : Cond.code yM_done prog_13_method_45_code 2 (some .int) ∈ am_tbl := am_m5 (i := 180) rfl rfl
theorem wiM_done : Cond.instanceMethod yM_done ∈ am_tbl := am_m5 (i := 178) rfl rfl
theorem wsM_done : Cond.selects "MilkHorseModel" yM_done yM_done ∈ am_tbl := am_m5 (i := 179) rfl rfl
def yM_doneOf : MethodName := ⟨"MilkHorseModel", "doneOf", "(I)I"⟩
theorem wcM_doneOf : Cond.code yM_doneOf prog_13_method_44_code 2 (some .int) ∈ am_tbl := am_m5 (i := 184) rfl rfl
theorem wiM_doneOf : Cond.instanceMethod yM_doneOf ∈ am_tbl := am_m5 (i := 183) rfl rfl
theorem wsM_doneOf : Cond.selects "MilkHorseModel" yM_doneOf yM_doneOf ∈ am_tbl := am_memS (i := 44) (by decide +kernel) (by decide +kernel)
def yM_sum : MethodName := ⟨"MilkHorseModel", "sum", "(I)I"⟩
theorem wcM_sum : Cond.code yM_sum prog_13_method_47_code 2 (some .int) ∈ am_tbl := am_m5 (i := 188) rfl rfl
theorem wiM_sum : Cond.instanceMethod yM_sum ∈ am_tbl := am_m5 (i := 186) rfl rfl
theorem wsM_sum : Cond.selects "MilkHorseModel" yM_sum yM_sum ∈ am_tbl := am_m5 (i := 187) rfl rfl
def yM_sumOf : MethodName := ⟨"MilkHorseModel", "sumOf", "(I)I"⟩
theorem wcM_sumOf : Cond.code yM_sumOf prog_13_method_46_code 2 (some .int) ∈ am_tbl := am_m5 (i := 192) rfl rfl
theorem wiM_sumOf : Cond.instanceMethod yM_sumOf ∈ am_tbl := am_m5 (i := 191) rfl rfl
theorem wsM_sumOf : Cond.selects "MilkHorseModel" yM_sumOf yM_sumOf ∈ am_tbl := am_memS (i := 45) (by decide +kernel) (by decide +kernel)
def yM_over : MethodName := ⟨"MilkHorseModel", "over", "()I"⟩
theorem wcM_over : Cond.code yM_over prog_13_method_49_code 1 (some .int) ∈ am_tbl := am_m5 (i := 196) rfl rfl
theorem wiM_over : Cond.instanceMethod yM_over ∈ am_tbl := am_m5 (i := 194) rfl rfl
theorem wsM_over : Cond.selects "MilkHorseModel" yM_over yM_over ∈ am_tbl := am_m5 (i := 195) rfl rfl
def yM_overOf : MethodName := ⟨"MilkHorseModel", "overOf", "()I"⟩
theorem wcM_overOf : Cond.code yM_overOf prog_13_method_48_code 1 (some .int) ∈ am_tbl := am_m5 (i := 200) rfl rfl
theorem wiM_overOf : Cond.instanceMethod yM_overOf ∈ am_tbl := am_m5 (i := 199) rfl rfl
theorem wsM_overOf : Cond.selects "MilkHorseModel" yM_overOf yM_overOf ∈ am_tbl := am_memS (i := 46) (by decide +kernel) (by decide +kernel)
def yM_lacks : MethodName := ⟨"MilkHorseModel", "lacks", "()I"⟩
theorem wcM_lacks : Cond.code yM_lacks prog_13_method_53_code 1 (some .int) ∈ am_tbl := am_m5 (i := 204) rfl rfl
theorem wiM_lacks : Cond.instanceMethod yM_lacks ∈ am_tbl := am_m5 (i := 202) rfl rfl
theorem wsM_lacks : Cond.selects "MilkHorseModel" yM_lacks yM_lacks ∈ am_tbl := am_m5 (i := 203) rfl rfl
def yM_lacksOf : MethodName := ⟨"MilkHorseModel", "lacksOf", "()I"⟩
theorem wcM_lacksOf : Cond.code yM_lacksOf prog_13_method_52_code 1 (some .int) ∈ am_tbl := am_m5 (i := 208) rfl rfl
theorem wiM_lacksOf : Cond.instanceMethod yM_lacksOf ∈ am_tbl := am_m5 (i := 207) rfl rfl
theorem wsM_lacksOf : Cond.selects "MilkHorseModel" yM_lacksOf yM_lacksOf ∈ am_tbl := am_memS (i := 47) (by decide +kernel) (by decide +kernel)
def yM_shortNow : MethodName := ⟨"MilkHorseModel", "shortNow", "()I"⟩
theorem wcM_shortNow : Cond.code yM_shortNow prog_13_method_50_code 3 (some .int) ∈ am_tbl := am_m5 (i := 212) rfl rfl
theorem wiM_shortNow : Cond.instanceMethod yM_shortNow ∈ am_tbl := am_m5 (i := 211) rfl rfl
theorem wsM_shortNow : Cond.selects "MilkHorseModel" yM_shortNow yM_shortNow ∈ am_tbl := am_memS (i := 48) (by decide +kernel) (by decide +kernel)
def yM_better : MethodName := ⟨"MilkHorseModel", "better", "(I)I"⟩
theorem wcM_better : Cond.code yM_better prog_13_method_57_code 2 (some .int) ∈ am_tbl := am_m5 (i := 216) rfl rfl
theorem wiM_better : Cond.instanceMethod yM_better ∈ am_tbl := am_m5 (i := 214) rfl rfl
theorem wsM_better : Cond.selects "MilkHorseModel" yM_better yM_better ∈ am_tbl := am_m5 (i := 215) rfl rfl
def yM_betterOf : MethodName := ⟨"MilkHorseModel", "betterOf", "(I)I"⟩
theorem wcM_betterOf : Cond.code yM_betterOf prog_13_method_56_code 3 (some .int) ∈ am_tbl := am_m5 (i := 220) rfl rfl
theorem wiM_betterOf : Cond.instanceMethod yM_betterOf ∈ am_tbl := am_m5 (i := 219) rfl rfl
theorem wsM_betterOf : Cond.selects "MilkHorseModel" yM_betterOf yM_betterOf ∈ am_tbl := am_memS (i := 49) (by decide +kernel) (by decide +kernel)
def yM_starts : MethodName := ⟨"MilkHorseModel", "starts", "()V"⟩
theorem wcM_starts : Cond.code yM_starts prog_13_method_54_code 1 none ∈ am_tbl := am_m5 (i := 224) rfl rfl
theorem wiM_starts : Cond.instanceMethod yM_starts ∈ am_tbl := am_m5 (i := 223) rfl rfl
theorem wsM_starts : Cond.selects "MilkHorseModel" yM_starts yM_starts ∈ am_tbl := am_memS (i := 50) (by decide +kernel) (by decide +kernel)
def yM_tries : MethodName := ⟨"MilkHorseModel", "tries", "(I)V"⟩
theorem wcM_tries : Cond.code yM_tries prog_13_method_55_code 3 none ∈ am_tbl := am_m5 (i := 228) rfl rfl
theorem wiM_tries : Cond.instanceMethod yM_tries ∈ am_tbl := am_m5 (i := 227) rfl rfl
theorem wsM_tries : Cond.selects "MilkHorseModel" yM_tries yM_tries ∈ am_tbl := am_memS (i := 51) (by decide +kernel) (by decide +kernel)
def yM_manyShort : MethodName := ⟨"MilkHorseModel", "manyShort", "()I"⟩
theorem wcM_manyShort : Cond.code yM_manyShort prog_13_method_51_code 3 (some .int) ∈ am_tbl := am_m5 (i := 232) rfl rfl
theorem wiM_manyShort : Cond.instanceMethod yM_manyShort ∈ am_tbl := am_m5 (i := 231) rfl rfl
theorem wsM_manyShort : Cond.selects "MilkHorseModel" yM_manyShort yM_manyShort ∈ am_tbl := am_memS (i := 52) (by decide +kernel) (by decide +kernel)
def yM_fit : MethodName := ⟨"MilkHorseModel", "fit", "(I)I"⟩
theorem wcM_fit : Cond.code yM_fit prog_13_method_59_code 2 (some .int) ∈ am_tbl := am_m5 (i := 236) rfl rfl
theorem wiM_fit : Cond.instanceMethod yM_fit ∈ am_tbl := am_m5 (i := 234) rfl rfl
theorem wsM_fit : Cond.selects "MilkHorseModel" yM_fit yM_fit ∈ am_tbl := am_m5 (i := 235) rfl rfl
def yM_fitOf : MethodName := ⟨"MilkHorseModel", "fitOf", "(I)I"⟩
theorem wcM_fitOf : Cond.code yM_fitOf prog_13_method_58_code 3 (some .int) ∈ am_tbl := am_m6 (i := 0) rfl rfl
theorem wiM_fitOf : Cond.instanceMethod yM_fitOf ∈ am_tbl := am_m5 (i := 239) rfl rfl
theorem wsM_fitOf : Cond.selects "MilkHorseModel" yM_fitOf yM_fitOf ∈ am_tbl := am_memS (i := 53) (by decide +kernel) (by decide +kernel)
def yM_swap : MethodName := ⟨"MilkHorseModel", "swap", "(I)I"⟩
theorem wcM_swap : Cond.code yM_swap prog_13_method_61_code 2 (some .int) ∈ am_tbl := am_m6 (i := 4) rfl rfl
theorem wiM_swap : Cond.instanceMethod yM_swap ∈ am_tbl := am_m6 (i := 2) rfl rfl
theorem wsM_swap : Cond.selects "MilkHorseModel" yM_swap yM_swap ∈ am_tbl := am_m6 (i := 3) rfl rfl
def yM_swapOf : MethodName := ⟨"MilkHorseModel", "swapOf", "(I)I"⟩
theorem wcM_swapOf : Cond.code yM_swapOf prog_13_method_60_code 4 (some .int) ∈ am_tbl := am_m6 (i := 8) rfl rfl
theorem wiM_swapOf : Cond.instanceMethod yM_swapOf ∈ am_tbl := am_m6 (i := 7) rfl rfl
theorem wsM_swapOf : Cond.selects "MilkHorseModel" yM_swapOf yM_swapOf ∈ am_tbl := am_memS (i := 54) (by decide +kernel) (by decide +kernel)
def yM_spare : MethodName := ⟨"MilkHorseModel", "spare", "(I)I"⟩
theorem wcM_spare : Cond.code yM_spare prog_13_method_65_code 2 (some .int) ∈ am_tbl := am_m6 (i := 12) rfl rfl
theorem wiM_spare : Cond.instanceMethod yM_spare ∈ am_tbl := am_m6 (i := 10) rfl rfl
theorem wsM_spare : Cond.selects "MilkHorseModel" yM_spare yM_spare ∈ am_tbl := am_m6 (i := 11) rfl rfl
def yM_spareBy : MethodName := ⟨"MilkHorseModel", "spareBy", "()I"⟩
theorem wcM_spareBy : Cond.code yM_spareBy prog_13_method_63_code 3 (some .int) ∈ am_tbl := am_m6 (i := 16) rfl rfl
theorem wiM_spareBy : Cond.instanceMethod yM_spareBy ∈ am_tbl := am_m6 (i := 15) rfl rfl
theorem wsM_spareBy : Cond.selects "MilkHorseModel" yM_spareBy yM_spareBy ∈ am_tbl := am_memS (i := 55) (by decide +kernel) (by decide +kernel)
def yM_isSpared : MethodName := ⟨"MilkHorseModel", "isSpared", "(I)Z"⟩
theorem wcM_isSpared : Cond.code yM_isSpared prog_13_method_62_code 2 (some .boolean) ∈ am_tbl := am_m6 (i := 20) rfl rfl
theorem wiM_isSpared : Cond.instanceMethod yM_isSpared ∈ am_tbl := am_m6 (i := 19) rfl rfl
theorem wsM_isSpared : Cond.selects "MilkHorseModel" yM_isSpared yM_isSpared ∈ am_tbl := am_memS (i := 56) (by decide +kernel) (by decide +kernel)
def yM_ofRow : MethodName := ⟨"MilkHorseModel", "ofRow", "(II)I"⟩
theorem wcM_ofRow : Cond.code yM_ofRow prog_13_method_64_code 3 (some .int) ∈ am_tbl := am_m6 (i := 24) rfl rfl
theorem wiM_ofRow : Cond.instanceMethod yM_ofRow ∈ am_tbl := am_m6 (i := 23) rfl rfl
theorem wsM_ofRow : Cond.selects "MilkHorseModel" yM_ofRow yM_ofRow ∈ am_tbl := am_memS (i := 57) (by decide +kernel) (by decide +kernel)
def yM_seen : MethodName := ⟨"MilkHorseModel", "seen", "(II)I"⟩
theorem wcM_seen : Cond.code yM_seen prog_13_method_66_code 3 (some .int) ∈ am_tbl := am_m6 (i := 28) rfl rfl
theorem wiM_seen : Cond.instanceMethod yM_seen ∈ am_tbl := am_m6 (i := 26) rfl rfl
theorem wsM_seen : Cond.selects "MilkHorseModel" yM_seen yM_seen ∈ am_tbl := am_m6 (i := 27) rfl rfl
def yM_forget : MethodName := ⟨"MilkHorseModel", "forget", "()I"⟩
theorem wcM_forget : Cond.code yM_forget prog_13_method_67_code 2 (some .int) ∈ am_tbl := am_m6 (i := 32) rfl rfl
theorem wiM_forget : Cond.instanceMethod yM_forget ∈ am_tbl := am_m6 (i := 30) rfl rfl
theorem wsM_forget : Cond.selects "MilkHorseModel" yM_forget yM_forget ∈ am_tbl := am_m6 (i := 31) rfl rfl
def yM_never : MethodName := ⟨"MilkHorseModel", "never", "()I"⟩
theorem wcM_never : Cond.code yM_never prog_13_method_70_code 1 (some .int) ∈ am_tbl := am_m6 (i := 36) rfl rfl
theorem wiM_never : Cond.instanceMethod yM_never ∈ am_tbl := am_m6 (i := 34) rfl rfl
theorem wsM_never : Cond.selects "MilkHorseModel" yM_never yM_never ∈ am_tbl := am_m6 (i := 35) rfl rfl
def yM_neverNow : MethodName := ⟨"MilkHorseModel", "neverNow", "()I"⟩
theorem wcM_neverNow : Cond.code yM_neverNow prog_13_method_69_code 3 (some .int) ∈ am_tbl := am_m6 (i := 40) rfl rfl
theorem wiM_neverNow : Cond.instanceMethod yM_neverNow ∈ am_tbl := am_m6 (i := 39) rfl rfl
theorem wsM_neverNow : Cond.selects "MilkHorseModel" yM_neverNow yM_neverNow ∈ am_tbl := am_memS (i := 58) (by decide +kernel) (by decide +kernel)
def yM_isSeen : MethodName := ⟨"MilkHorseModel", "isSeen", "()Z"⟩
theorem wcM_isSeen : Cond.code yM_isSeen prog_13_method_68_code 3 (some .boolean) ∈ am_tbl := am_m6 (i := 44) rfl rfl
theorem wiM_isSeen : Cond.instanceMethod yM_isSeen ∈ am_tbl := am_m6 (i := 43) rfl rfl
theorem wsM_isSeen : Cond.selects "MilkHorseModel" yM_isSeen yM_isSeen ∈ am_tbl := am_memS (i := 59) (by decide +kernel) (by decide +kernel)
def yM_numbers : MethodName := ⟨"MilkHorseModel", "numbers", "(I)I"⟩
theorem wcM_numbers : Cond.code yM_numbers prog_13_method_72_code 2 (some .int) ∈ am_tbl := am_m6 (i := 48) rfl rfl
theorem wiM_numbers : Cond.instanceMethod yM_numbers ∈ am_tbl := am_m6 (i := 46) rfl rfl
theorem wsM_numbers : Cond.selects "MilkHorseModel" yM_numbers yM_numbers ∈ am_tbl := am_m6 (i := 47) rfl rfl
def yM_numbersBy : MethodName := ⟨"MilkHorseModel", "numbersBy", "(I)I"⟩
theorem wcM_numbersBy : Cond.code yM_numbersBy prog_13_method_71_code 4 (some .int) ∈ am_tbl := am_m6 (i := 52) rfl rfl
theorem wiM_numbersBy : Cond.instanceMethod yM_numbersBy ∈ am_tbl := am_m6 (i := 51) rfl rfl
theorem wsM_numbersBy : Cond.selects "MilkHorseModel" yM_numbersBy yM_numbersBy ∈ am_tbl := am_memS (i := 60) (by decide +kernel) (by decide +kernel)
def yM_might : MethodName := ⟨"MilkHorseModel", "might", "(I)I"⟩
theorem wcM_might : Cond.code yM_might prog_13_method_75_code 2 (some .int) ∈ am_tbl := am_m6 (i := 56) rfl rfl
theorem wiM_might : Cond.instanceMethod yM_might ∈ am_tbl := am_m6 (i := 54) rfl rfl
theorem wsM_might : Cond.selects "MilkHorseModel" yM_might yM_might ∈ am_tbl := am_m6 (i := 55) rfl rfl
def yM_kindsBy : MethodName := ⟨"MilkHorseModel", "kindsBy", "()I"⟩
theorem wcM_kindsBy : Cond.code yM_kindsBy prog_13_method_73_code 3 (some .int) ∈ am_tbl := am_m6 (i := 60) rfl rfl
theorem wiM_kindsBy : Cond.instanceMethod yM_kindsBy ∈ am_tbl := am_m6 (i := 59) rfl rfl
theorem wsM_kindsBy : Cond.selects "MilkHorseModel" yM_kindsBy yM_kindsBy ∈ am_tbl := am_memS (i := 61) (by decide +kernel) (by decide +kernel)
def yM_roomsBy : MethodName := ⟨"MilkHorseModel", "roomsBy", "()I"⟩
theorem wcM_roomsBy : Cond.code yM_roomsBy prog_13_method_74_code 4 (some .int) ∈ am_tbl := am_m6 (i := 64) rfl rfl
theorem wiM_roomsBy : Cond.instanceMethod yM_roomsBy ∈ am_tbl := am_m6 (i := 63) rfl rfl
theorem wsM_roomsBy : Cond.selects "MilkHorseModel" yM_roomsBy yM_roomsBy ∈ am_tbl := am_memS (i := 62) (by decide +kernel) (by decide +kernel)
def yM_ask : MethodName := ⟨"MilkHorseModel", "ask", "()I"⟩
theorem wcM_ask : Cond.code yM_ask prog_13_method_77_code 1 (some .int) ∈ am_tbl := am_m6 (i := 68) rfl rfl
theorem wiM_ask : Cond.instanceMethod yM_ask ∈ am_tbl := am_m6 (i := 66) rfl rfl
theorem wsM_ask : Cond.selects "MilkHorseModel" yM_ask yM_ask ∈ am_tbl := am_m6 (i := 67) rfl rfl
def yM_askOf : MethodName := ⟨"MilkHorseModel", "askOf", "()I"⟩
theorem wcM_askOf : Cond.code yM_askOf prog_13_method_76_code 9 (some .int) ∈ am_tbl := am_m6 (i := 72) rfl rfl
theorem wiM_askOf : Cond.instanceMethod yM_askOf ∈ am_tbl := am_m6 (i := 71) rfl rfl
theorem wsM_askOf : Cond.selects "MilkHorseModel" yM_askOf yM_askOf ∈ am_tbl := am_memS (i := 63) (by decide +kernel) (by decide +kernel)
def yM_chance : MethodName := ⟨"MilkHorseModel", "chance", "(III)J"⟩
theorem wcM_chance : Cond.code yM_chance prog_13_method_79_code 4 (some .long) ∈ am_tbl := am_m6 (i := 76) rfl rfl
theorem wiM_chance : Cond.instanceMethod yM_chance ∈ am_tbl := am_m6 (i := 74) rfl rfl
theorem wsM_chance : Cond.selects "MilkHorseModel" yM_chance yM_chance ∈ am_tbl := am_m6 (i := 75) rfl rfl
def yM_chanceOf : MethodName := ⟨"MilkHorseModel", "chanceOf", "(III)J"⟩
theorem wcM_chanceOf : Cond.code yM_chanceOf prog_13_method_78_code 10 (some .long) ∈ am_tbl := am_m6 (i := 80) rfl rfl
theorem wiM_chanceOf : Cond.instanceMethod yM_chanceOf ∈ am_tbl := am_m6 (i := 79) rfl rfl
theorem wsM_chanceOf : Cond.selects "MilkHorseModel" yM_chanceOf yM_chanceOf ∈ am_tbl := am_memS (i := 64) (by decide +kernel) (by decide +kernel)
def yM_lowest : MethodName := ⟨"MilkHorseModel", "lowest", "(JJI)J"⟩
theorem wcM_lowest : Cond.code yM_lowest prog_13_method_7_code 11 (some .long) ∈ am_tbl := am_m6 (i := 83) rfl rfl
theorem wtM_lowest : Cond.static yM_lowest ∈ am_tbl := am_m6 (i := 82) rfl rfl
def yM_no : MethodName := ⟨"MilkHorseModel", "no", "(I)J"⟩
theorem wcM_no : Cond.code yM_no prog_13_method_5_code 1 (some .long) ∈ am_tbl := am_m6 (i := 86) rfl rfl
theorem wtM_no : Cond.static yM_no ∈ am_tbl := am_m6 (i := 85) rfl rfl
def yM_mornings : MethodName := ⟨"MilkHorseModel", "mornings", "(III)I"⟩
theorem wcM_mornings : Cond.code yM_mornings prog_13_method_81_code 4 (some .int) ∈ am_tbl := am_m6 (i := 91) rfl rfl
theorem wiM_mornings : Cond.instanceMethod yM_mornings ∈ am_tbl := am_m6 (i := 89) rfl rfl
theorem wsM_mornings : Cond.selects "MilkHorseModel" yM_mornings yM_mornings ∈ am_tbl := am_m6 (i := 90) rfl rfl
def yM_morningsOf : MethodName := ⟨"MilkHorseModel", "morningsOf", "(III)I"⟩
theorem wcM_morningsOf : Cond.code yM_morningsOf prog_13_method_80_code 6 (some .int) ∈ am_tbl := am_m6 (i := 95) rfl rfl
theorem wiM_morningsOf : Cond.instanceMethod yM_morningsOf ∈ am_tbl := am_m6 (i := 94) rfl rfl
theorem wsM_morningsOf : Cond.selects "MilkHorseModel" yM_morningsOf yM_morningsOf ∈ am_tbl := am_memS (i := 65) (by decide +kernel) (by decide +kernel)
def yM_sheet : MethodName := ⟨"MilkHorseModel", "sheet", "(III)I"⟩
theorem wcM_sheet : Cond.code yM_sheet prog_13_method_84_code 5 (some .int) ∈ am_tbl := am_m6 (i := 100) rfl rfl
theorem wiM_sheet : Cond.instanceMethod yM_sheet ∈ am_tbl := am_m6 (i := 98) rfl rfl
theorem wsM_sheet : Cond.selects "MilkHorseModel" yM_sheet yM_sheet ∈ am_tbl := am_m6 (i := 99) rfl rfl
def yM_lose : MethodName := ⟨"MilkHorseModel", "lose", "(I)I"⟩
theorem wcM_lose : Cond.code yM_lose prog_13_method_85_code 2 (some .int) ∈ am_tbl := am_m6 (i := 104) rfl rfl
theorem wiM_lose : Cond.instanceMethod yM_lose ∈ am_tbl := am_m6 (i := 102) rfl rfl
theorem wsM_lose : Cond.selects "MilkHorseModel" yM_lose yM_lose ∈ am_tbl := am_m6 (i := 103) rfl rfl
def yM_put : MethodName := ⟨"MilkHorseModel", "put", "(IIII)I"⟩
theorem wcM_put : Cond.code yM_put prog_13_method_88_code 6 (some .int) ∈ am_tbl := am_m6 (i := 108) rfl rfl
theorem wiM_put : Cond.instanceMethod yM_put ∈ am_tbl := am_m6 (i := 106) rfl rfl
theorem wsM_put : Cond.selects "MilkHorseModel" yM_put yM_put ∈ am_tbl := am_m6 (i := 107) rfl rfl
def yM_lacks3 : MethodName := ⟨"MilkHorseModel", "lacks", "(III)I"⟩
theorem wcM_lacks3 : Cond.code yM_lacks3 prog_13_method_86_code 4 (some .int) ∈ am_tbl := am_m6 (i := 112) rfl rfl
theorem wiM_lacks3 : Cond.instanceMethod yM_lacks3 ∈ am_tbl := am_m6 (i := 111) rfl rfl
theorem wsM_lacks3 : Cond.selects "MilkHorseModel" yM_lacks3 yM_lacks3 ∈ am_tbl := am_memS (i := 66) (by decide +kernel) (by decide +kernel)
def yM_keep : MethodName := ⟨"MilkHorseModel", "keep", "(III)V"⟩
theorem wcM_keep : Cond.code yM_keep prog_13_method_87_code 4 none ∈ am_tbl := am_m6 (i := 116) rfl rfl
theorem wiM_keep : Cond.instanceMethod yM_keep ∈ am_tbl := am_m6 (i := 115) rfl rfl
theorem wsM_keep : Cond.selects "MilkHorseModel" yM_keep yM_keep ∈ am_tbl := am_memS (i := 67) (by decide +kernel) (by decide +kernel)
def yM_get : MethodName := ⟨"MilkHorseModel", "get", "(III)I"⟩
theorem wcM_get : Cond.code yM_get prog_13_method_89_code 5 (some .int) ∈ am_tbl := am_m6 (i := 120) rfl rfl
theorem wiM_get : Cond.instanceMethod yM_get ∈ am_tbl := am_m6 (i := 118) rfl rfl
theorem wsM_get : Cond.selects "MilkHorseModel" yM_get yM_get ∈ am_tbl := am_m6 (i := 119) rfl rfl
def yM_copy : MethodName := ⟨"MilkHorseModel", "copy", "(IIIII)I"⟩
theorem wcM_copy : Cond.code yM_copy prog_13_method_90_code 7 (some .int) ∈ am_tbl := am_m6 (i := 125) rfl rfl
theorem wiM_copy : Cond.instanceMethod yM_copy ∈ am_tbl := am_m6 (i := 123) rfl rfl
theorem wsM_copy : Cond.selects "MilkHorseModel" yM_copy yM_copy ∈ am_tbl := am_m6 (i := 124) rfl rfl
def yM_write : MethodName := ⟨"MilkHorseModel", "write", "(II)I"⟩
theorem wcM_write : Cond.code yM_write prog_13_method_91_code 4 (some .int) ∈ am_tbl := am_m6 (i := 129) rfl rfl
theorem wiM_write : Cond.instanceMethod yM_write ∈ am_tbl := am_m6 (i := 127) rfl rfl
theorem wsM_write : Cond.selects "MilkHorseModel" yM_write yM_write ∈ am_tbl := am_m6 (i := 128) rfl rfl
def yM_count : MethodName := ⟨"MilkHorseModel", "count", "(I)I"⟩
theorem wcM_count : Cond.code yM_count prog_13_method_94_code 2 (some .int) ∈ am_tbl := am_m6 (i := 133) rfl rfl
theorem wiM_count : Cond.instanceMethod yM_count ∈ am_tbl := am_m6 (i := 131) rfl rfl
theorem wsM_count : Cond.selects "MilkHorseModel" yM_count yM_count ∈ am_tbl := am_m6 (i := 132) rfl rfl
def yM_roundsOf : MethodName := ⟨"MilkHorseModel", "roundsOf", "()I"⟩
theorem wcM_roundsOf : Cond.code yM_roundsOf prog_13_method_92_code 1 (some .int) ∈ am_tbl := am_m6 (i := 137) rfl rfl
theorem wiM_roundsOf : Cond.instanceMethod yM_roundsOf ∈ am_tbl := am_m6 (i := 136) rfl rfl
theorem wsM_roundsOf : Cond.selects "MilkHorseModel" yM_roundsOf yM_roundsOf ∈ am_tbl := am_memS (i := 68) (by decide +kernel) (by decide +kernel)
def yM_shortOf : MethodName := ⟨"MilkHorseModel", "shortOf", "()I"⟩
theorem wcM_shortOf : Cond.code yM_shortOf prog_13_method_93_code 1 (some .int) ∈ am_tbl := am_m6 (i := 141) rfl rfl
theorem wiM_shortOf : Cond.instanceMethod yM_shortOf ∈ am_tbl := am_m6 (i := 140) rfl rfl
theorem wsM_shortOf : Cond.selects "MilkHorseModel" yM_shortOf yM_shortOf ∈ am_tbl := am_memS (i := 69) (by decide +kernel) (by decide +kernel)
def yM_digest : MethodName := ⟨"MilkHorseModel", "digest", "()J"⟩
theorem wcM_digest : Cond.code yM_digest prog_13_method_97_code 5 (some .long) ∈ am_tbl := am_m6 (i := 145) rfl rfl
theorem wiM_digest : Cond.instanceMethod yM_digest ∈ am_tbl := am_m6 (i := 143) rfl rfl
theorem wsM_digest : Cond.selects "MilkHorseModel" yM_digest yM_digest ∈ am_tbl := am_m6 (i := 144) rfl rfl
def yM_doorDigest : MethodName := ⟨"MilkHorseModel", "doorDigest", "(JI)J"⟩
theorem wcM_doorDigest : Cond.code yM_doorDigest prog_13_method_95_code 7 (some .long) ∈ am_tbl := am_m6 (i := 152) rfl rfl
theorem wiM_doorDigest : Cond.instanceMethod yM_doorDigest ∈ am_tbl := am_m6 (i := 151) rfl rfl
theorem wsM_doorDigest : Cond.selects "MilkHorseModel" yM_doorDigest yM_doorDigest ∈ am_tbl := am_memS (i := 70) (by decide +kernel) (by decide +kernel)
def yM_planDigest : MethodName := ⟨"MilkHorseModel", "planDigest", "(J)J"⟩
theorem wcM_planDigest : Cond.code yM_planDigest prog_13_method_96_code 6 (some .long) ∈ am_tbl := am_m6 (i := 156) rfl rfl
theorem wiM_planDigest : Cond.instanceMethod yM_planDigest ∈ am_tbl := am_m6 (i := 155) rfl rfl
theorem wsM_planDigest : Cond.selects "MilkHorseModel" yM_planDigest yM_planDigest ∈ am_tbl := am_memS (i := 71) (by decide +kernel) (by decide +kernel)
end
