section
-- ===== PART A: goes FIRST, ahead of the names: the tables' words, and 'selects' of the private methods out of them =====
/-- a private method of a class that the tables say can be made, by its rows of tables_1 -/
def lw_okq (q : MethodName × Nat) : Prop := (q.1.cls ≠ "java/lang/invoke/MethodHandle" ∧ q.1.cls ≠ "java/lang/invoke/VarHandle") ∧ Cond.instantiable q.1.cls q.2 ∈ tables_1 ∧ Cond.privateMethod q.1 ∈ tables_1 ∧ Cond.instanceMethod q.1 ∈ tables_1
theorem lw_p0 : lw_okq (⟨"MilkHorse", "textOf", "(I)LMilkHorse$Text;"⟩, 17) := ⟨⟨by decide +kernel, by decide +kernel⟩, List.mem_of_getElem? (i := 18) (by decide +kernel), List.mem_of_getElem? (i := 391) (by decide +kernel), List.mem_of_getElem? (i := 392) (by decide +kernel)⟩
theorem lw_p1 : lw_okq (⟨"MilkHorse", "hearTexts", "()V"⟩, 17) := ⟨⟨by decide +kernel, by decide +kernel⟩, List.mem_of_getElem? (i := 18) (by decide +kernel), List.mem_of_getElem? (i := 399) (by decide +kernel), List.mem_of_getElem? (i := 400) (by decide +kernel)⟩
theorem lw_p2 : lw_okq (⟨"MilkHorse", "forgetMornings", "()V"⟩, 17) := ⟨⟨by decide +kernel, by decide +kernel⟩, List.mem_of_getElem? (i := 18) (by decide +kernel), List.mem_of_getElem? (i := 411) (by decide +kernel), List.mem_of_getElem? (i := 412) (by decide +kernel)⟩
theorem lw_p3 : lw_okq (⟨"MilkHorse", "sheetOf", "(I)LMilkHorse$Sheet;"⟩, 17) := ⟨⟨by decide +kernel, by decide +kernel⟩, List.mem_of_getElem? (i := 18) (by decide +kernel), List.mem_of_getElem? (i := 479) (by decide +kernel), List.mem_of_getElem? (i := 480) (by decide +kernel)⟩
theorem lw_p4 : lw_okq (⟨"MilkHorse", "found", "(I)I"⟩, 17) := ⟨⟨by decide +kernel, by decide +kernel⟩, List.mem_of_getElem? (i := 18) (by decide +kernel), List.mem_of_getElem? (i := 483) (by decide +kernel), List.mem_of_getElem? (i := 484) (by decide +kernel)⟩
theorem lw_p5 : lw_okq (⟨"MilkHorse", "learnDay", "()V"⟩, 17) := ⟨⟨by decide +kernel, by decide +kernel⟩, List.mem_of_getElem? (i := 18) (by decide +kernel), List.mem_of_getElem? (i := 492) (by decide +kernel), List.mem_of_getElem? (i := 493) (by decide +kernel)⟩
theorem lw_p6 : lw_okq (⟨"MilkHorse$Walk", "begin", "(LMilkHorse$Plan;)V"⟩, 17) := ⟨⟨by decide +kernel, by decide +kernel⟩, List.mem_of_getElem? (i := 136) (by decide +kernel), List.mem_of_getElem? (i := 507) (by decide +kernel), List.mem_of_getElem? (i := 508) (by decide +kernel)⟩
theorem lw_p7 : lw_okq (⟨"MilkHorse$Walk", "befall", "(ILMilkHorse$Events;I)V"⟩, 17) := ⟨⟨by decide +kernel, by decide +kernel⟩, List.mem_of_getElem? (i := 136) (by decide +kernel), List.mem_of_getElem? (i := 515) (by decide +kernel), List.mem_of_getElem? (i := 516) (by decide +kernel)⟩
theorem lw_p8 : lw_okq (⟨"MilkHorse$Walk", "pullCart", "(I)V"⟩, 17) := ⟨⟨by decide +kernel, by decide +kernel⟩, List.mem_of_getElem? (i := 136) (by decide +kernel), List.mem_of_getElem? (i := 519) (by decide +kernel), List.mem_of_getElem? (i := 520) (by decide +kernel)⟩
theorem lw_p9 : lw_okq (⟨"MilkHorse$Walk", "breakOne", "(I)V"⟩, 17) := ⟨⟨by decide +kernel, by decide +kernel⟩, List.mem_of_getElem? (i := 136) (by decide +kernel), List.mem_of_getElem? (i := 529) (by decide +kernel), List.mem_of_getElem? (i := 530) (by decide +kernel)⟩
theorem lw_p10 : lw_okq (⟨"MilkHorse$Walk", "act", "(LMilkHorse$Plan;)V"⟩, 17) := ⟨⟨by decide +kernel, by decide +kernel⟩, List.mem_of_getElem? (i := 136) (by decide +kernel), List.mem_of_getElem? (i := 534) (by decide +kernel), List.mem_of_getElem? (i := 535) (by decide +kernel)⟩
theorem lw_p11 : lw_okq (⟨"MilkHorse$Walk", "goTowards", "(I)V"⟩, 17) := ⟨⟨by decide +kernel, by decide +kernel⟩, List.mem_of_getElem? (i := 136) (by decide +kernel), List.mem_of_getElem? (i := 539) (by decide +kernel), List.mem_of_getElem? (i := 540) (by decide +kernel)⟩
theorem lw_p12 : lw_okq (⟨"MilkHorse$Walk", "hasDog", "(I)Z"⟩, 17) := ⟨⟨by decide +kernel, by decide +kernel⟩, List.mem_of_getElem? (i := 136) (by decide +kernel), List.mem_of_getElem? (i := 543) (by decide +kernel), List.mem_of_getElem? (i := 544) (by decide +kernel)⟩
theorem lw_p13 : lw_okq (⟨"MilkHorse$Walk", "fillCrate", "(I)V"⟩, 17) := ⟨⟨by decide +kernel, by decide +kernel⟩, List.mem_of_getElem? (i := 136) (by decide +kernel), List.mem_of_getElem? (i := 547) (by decide +kernel), List.mem_of_getElem? (i := 548) (by decide +kernel)⟩
theorem lw_p14 : lw_okq (⟨"MilkHorse$Walk", "serve", "(LMilkHorse$Plan;I)V"⟩, 17) := ⟨⟨by decide +kernel, by decide +kernel⟩, List.mem_of_getElem? (i := 136) (by decide +kernel), List.mem_of_getElem? (i := 551) (by decide +kernel), List.mem_of_getElem? (i := 552) (by decide +kernel)⟩
theorem lw_p15 : lw_okq (⟨"MilkHorse$Walk", "drive", "(II)V"⟩, 17) := ⟨⟨by decide +kernel, by decide +kernel⟩, List.mem_of_getElem? (i := 136) (by decide +kernel), List.mem_of_getElem? (i := 555) (by decide +kernel), List.mem_of_getElem? (i := 556) (by decide +kernel)⟩
def lw_privs_1 : List (MethodName × Nat) := [(⟨"MilkHorse", "textOf", "(I)LMilkHorse$Text;"⟩, 17), (⟨"MilkHorse", "hearTexts", "()V"⟩, 17), (⟨"MilkHorse", "forgetMornings", "()V"⟩, 17), (⟨"MilkHorse", "sheetOf", "(I)LMilkHorse$Sheet;"⟩, 17), (⟨"MilkHorse", "found", "(I)I"⟩, 17), (⟨"MilkHorse", "learnDay", "()V"⟩, 17), (⟨"MilkHorse$Walk", "begin", "(LMilkHorse$Plan;)V"⟩, 17), (⟨"MilkHorse$Walk", "befall", "(ILMilkHorse$Events;I)V"⟩, 17), (⟨"MilkHorse$Walk", "pullCart", "(I)V"⟩, 17), (⟨"MilkHorse$Walk", "breakOne", "(I)V"⟩, 17), (⟨"MilkHorse$Walk", "act", "(LMilkHorse$Plan;)V"⟩, 17), (⟨"MilkHorse$Walk", "goTowards", "(I)V"⟩, 17), (⟨"MilkHorse$Walk", "hasDog", "(I)Z"⟩, 17), (⟨"MilkHorse$Walk", "fillCrate", "(I)V"⟩, 17), (⟨"MilkHorse$Walk", "serve", "(LMilkHorse$Plan;I)V"⟩, 17), (⟨"MilkHorse$Walk", "drive", "(II)V"⟩, 17)]
theorem lw_r1 : ∀ q ∈ lw_privs_1, lw_okq q := List.forall_mem_cons.mpr ⟨lw_p0, List.forall_mem_cons.mpr ⟨lw_p1, List.forall_mem_cons.mpr ⟨lw_p2, List.forall_mem_cons.mpr ⟨lw_p3, List.forall_mem_cons.mpr ⟨lw_p4, List.forall_mem_cons.mpr ⟨lw_p5, List.forall_mem_cons.mpr ⟨lw_p6, List.forall_mem_cons.mpr ⟨lw_p7, List.forall_mem_cons.mpr ⟨lw_p8, List.forall_mem_cons.mpr ⟨lw_p9, List.forall_mem_cons.mpr ⟨lw_p10, List.forall_mem_cons.mpr ⟨lw_p11, List.forall_mem_cons.mpr ⟨lw_p12, List.forall_mem_cons.mpr ⟨lw_p13, List.forall_mem_cons.mpr ⟨lw_p14, List.forall_mem_cons.mpr ⟨lw_p15, fun _ h => absurd h List.not_mem_nil⟩⟩⟩⟩⟩⟩⟩⟩⟩⟩⟩⟩⟩⟩⟩⟩
theorem lw_p16 : lw_okq (⟨"MilkHorse", "learnSwaps", "()V"⟩, 17) := ⟨⟨by decide +kernel, by decide +kernel⟩, List.mem_of_getElem? (i := 18) (by decide +kernel), List.mem_of_getElem? (i := 635) (by decide +kernel), List.mem_of_getElem? (i := 636) (by decide +kernel)⟩
theorem lw_p17 : lw_okq (⟨"MilkHorse", "learnSpared", "()V"⟩, 17) := ⟨⟨by decide +kernel, by decide +kernel⟩, List.mem_of_getElem? (i := 18) (by decide +kernel), List.mem_of_getElem? (i := 644) (by decide +kernel), List.mem_of_getElem? (i := 645) (by decide +kernel)⟩
theorem lw_p18 : lw_okq (⟨"MilkHorse", "isWellWithout", "(I)Z"⟩, 17) := ⟨⟨by decide +kernel, by decide +kernel⟩, List.mem_of_getElem? (i := 18) (by decide +kernel), List.mem_of_getElem? (i := 652) (by decide +kernel), List.mem_of_getElem? (i := 653) (by decide +kernel)⟩
theorem lw_p19 : lw_okq (⟨"MilkHorse", "comesOutAsSeen", "()Z"⟩, 17) := ⟨⟨by decide +kernel, by decide +kernel⟩, List.mem_of_getElem? (i := 18) (by decide +kernel), List.mem_of_getElem? (i := 677) (by decide +kernel), List.mem_of_getElem? (i := 678) (by decide +kernel)⟩
theorem lw_p20 : lw_okq (⟨"MilkHorse", "gatherCrowds", "()V"⟩, 17) := ⟨⟨by decide +kernel, by decide +kernel⟩, List.mem_of_getElem? (i := 18) (by decide +kernel), List.mem_of_getElem? (i := 697) (by decide +kernel), List.mem_of_getElem? (i := 698) (by decide +kernel)⟩
theorem lw_p21 : lw_okq (⟨"MilkHorse", "learnChances", "()V"⟩, 17) := ⟨⟨by decide +kernel, by decide +kernel⟩, List.mem_of_getElem? (i := 18) (by decide +kernel), List.mem_of_getElem? (i := 708) (by decide +kernel), List.mem_of_getElem? (i := 709) (by decide +kernel)⟩
theorem lw_p22 : lw_okq (⟨"MilkHorse", "mixTold", "(J)J"⟩, 17) := ⟨⟨by decide +kernel, by decide +kernel⟩, List.mem_of_getElem? (i := 18) (by decide +kernel), List.mem_of_getElem? (i := 787) (by decide +kernel), List.mem_of_getElem? (i := 788) (by decide +kernel)⟩
theorem lw_p23 : lw_okq (⟨"MilkHorse", "mixMinutes", "(J)J"⟩, 17) := ⟨⟨by decide +kernel, by decide +kernel⟩, List.mem_of_getElem? (i := 18) (by decide +kernel), List.mem_of_getElem? (i := 795) (by decide +kernel), List.mem_of_getElem? (i := 796) (by decide +kernel)⟩
theorem lw_p24 : lw_okq (⟨"MilkHorse", "mixDoor", "(JI)J"⟩, 17) := ⟨⟨by decide +kernel, by decide +kernel⟩, List.mem_of_getElem? (i := 18) (by decide +kernel), List.mem_of_getElem? (i := 800) (by decide +kernel), List.mem_of_getElem? (i := 801) (by decide +kernel)⟩
theorem lw_p25 : lw_okq (⟨"MilkHorseModel", "faultOf", "(I)I"⟩, 52) := ⟨⟨by decide +kernel, by decide +kernel⟩, List.mem_of_getElem? (i := 819) (by decide +kernel), List.mem_of_getElem? (i := 1005) (by decide +kernel), List.mem_of_getElem? (i := 1006) (by decide +kernel)⟩
theorem lw_p26 : lw_okq (⟨"MilkHorseModel", "toldOf", "(II)I"⟩, 52) := ⟨⟨by decide +kernel, by decide +kernel⟩, List.mem_of_getElem? (i := 819) (by decide +kernel), List.mem_of_getElem? (i := 1019) (by decide +kernel), List.mem_of_getElem? (i := 1020) (by decide +kernel)⟩
theorem lw_p27 : lw_okq (⟨"MilkHorseModel", "reads", "()V"⟩, 52) := ⟨⟨by decide +kernel, by decide +kernel⟩, List.mem_of_getElem? (i := 819) (by decide +kernel), List.mem_of_getElem? (i := 1023) (by decide +kernel), List.mem_of_getElem? (i := 1024) (by decide +kernel)⟩
theorem lw_p28 : lw_okq (⟨"MilkHorseModel", "roundOf", "(I)I"⟩, 52) := ⟨⟨by decide +kernel, by decide +kernel⟩, List.mem_of_getElem? (i := 819) (by decide +kernel), List.mem_of_getElem? (i := 1031) (by decide +kernel), List.mem_of_getElem? (i := 1032) (by decide +kernel)⟩
theorem lw_p29 : lw_okq (⟨"MilkHorseModel", "meets", "(I)I"⟩, 52) := ⟨⟨by decide +kernel, by decide +kernel⟩, List.mem_of_getElem? (i := 819) (by decide +kernel), List.mem_of_getElem? (i := 1060) (by decide +kernel), List.mem_of_getElem? (i := 1061) (by decide +kernel)⟩
theorem lw_p30 : lw_okq (⟨"MilkHorseModel", "atOf", "(II)I"⟩, 52) := ⟨⟨by decide +kernel, by decide +kernel⟩, List.mem_of_getElem? (i := 819) (by decide +kernel), List.mem_of_getElem? (i := 1069) (by decide +kernel), List.mem_of_getElem? (i := 1070) (by decide +kernel)⟩
theorem lw_p31 : lw_okq (⟨"MilkHorseModel", "runsTold", "()V"⟩, 52) := ⟨⟨by decide +kernel, by decide +kernel⟩, List.mem_of_getElem? (i := 819) (by decide +kernel), List.mem_of_getElem? (i := 1073) (by decide +kernel), List.mem_of_getElem? (i := 1074) (by decide +kernel)⟩
def lw_privs_2 : List (MethodName × Nat) := [(⟨"MilkHorse", "learnSwaps", "()V"⟩, 17), (⟨"MilkHorse", "learnSpared", "()V"⟩, 17), (⟨"MilkHorse", "isWellWithout", "(I)Z"⟩, 17), (⟨"MilkHorse", "comesOutAsSeen", "()Z"⟩, 17), (⟨"MilkHorse", "gatherCrowds", "()V"⟩, 17), (⟨"MilkHorse", "learnChances", "()V"⟩, 17), (⟨"MilkHorse", "mixTold", "(J)J"⟩, 17), (⟨"MilkHorse", "mixMinutes", "(J)J"⟩, 17), (⟨"MilkHorse", "mixDoor", "(JI)J"⟩, 17), (⟨"MilkHorseModel", "faultOf", "(I)I"⟩, 52), (⟨"MilkHorseModel", "toldOf", "(II)I"⟩, 52), (⟨"MilkHorseModel", "reads", "()V"⟩, 52), (⟨"MilkHorseModel", "roundOf", "(I)I"⟩, 52), (⟨"MilkHorseModel", "meets", "(I)I"⟩, 52), (⟨"MilkHorseModel", "atOf", "(II)I"⟩, 52), (⟨"MilkHorseModel", "runsTold", "()V"⟩, 52)]
theorem lw_r2 : ∀ q ∈ lw_privs_2, lw_okq q := List.forall_mem_cons.mpr ⟨lw_p16, List.forall_mem_cons.mpr ⟨lw_p17, List.forall_mem_cons.mpr ⟨lw_p18, List.forall_mem_cons.mpr ⟨lw_p19, List.forall_mem_cons.mpr ⟨lw_p20, List.forall_mem_cons.mpr ⟨lw_p21, List.forall_mem_cons.mpr ⟨lw_p22, List.forall_mem_cons.mpr ⟨lw_p23, List.forall_mem_cons.mpr ⟨lw_p24, List.forall_mem_cons.mpr ⟨lw_p25, List.forall_mem_cons.mpr ⟨lw_p26, List.forall_mem_cons.mpr ⟨lw_p27, List.forall_mem_cons.mpr ⟨lw_p28, List.forall_mem_cons.mpr ⟨lw_p29, List.forall_mem_cons.mpr ⟨lw_p30, List.forall_mem_cons.mpr ⟨lw_p31, fun _ h => absurd h List.not_mem_nil⟩⟩⟩⟩⟩⟩⟩⟩⟩⟩⟩⟩⟩⟩⟩⟩
theorem lw_p32 : lw_okq (⟨"MilkHorseModel", "asTold", "()V"⟩, 52) := ⟨⟨by decide +kernel, by decide +kernel⟩, List.mem_of_getElem? (i := 819) (by decide +kernel), List.mem_of_getElem? (i := 1077) (by decide +kernel), List.mem_of_getElem? (i := 1078) (by decide +kernel)⟩
theorem lw_p33 : lw_okq (⟨"MilkHorseModel", "runs", "()V"⟩, 52) := ⟨⟨by decide +kernel, by decide +kernel⟩, List.mem_of_getElem? (i := 819) (by decide +kernel), List.mem_of_getElem? (i := 1081) (by decide +kernel), List.mem_of_getElem? (i := 1082) (by decide +kernel)⟩
theorem lw_p34 : lw_okq (⟨"MilkHorseModel", "runsBy", "(I)V"⟩, 52) := ⟨⟨by decide +kernel, by decide +kernel⟩, List.mem_of_getElem? (i := 819) (by decide +kernel), List.mem_of_getElem? (i := 1085) (by decide +kernel), List.mem_of_getElem? (i := 1086) (by decide +kernel)⟩
theorem lw_p35 : lw_okq (⟨"MilkHorseModel", "goesBy", "(I)V"⟩, 52) := ⟨⟨by decide +kernel, by decide +kernel⟩, List.mem_of_getElem? (i := 819) (by decide +kernel), List.mem_of_getElem? (i := 1089) (by decide +kernel), List.mem_of_getElem? (i := 1090) (by decide +kernel)⟩
theorem lw_p36 : lw_okq (⟨"MilkHorseModel", "befalls", "(I)V"⟩, 52) := ⟨⟨by decide +kernel, by decide +kernel⟩, List.mem_of_getElem? (i := 819) (by decide +kernel), List.mem_of_getElem? (i := 1093) (by decide +kernel), List.mem_of_getElem? (i := 1094) (by decide +kernel)⟩
theorem lw_p37 : lw_okq (⟨"MilkHorseModel", "does", "()I"⟩, 52) := ⟨⟨by decide +kernel, by decide +kernel⟩, List.mem_of_getElem? (i := 819) (by decide +kernel), List.mem_of_getElem? (i := 1103) (by decide +kernel), List.mem_of_getElem? (i := 1104) (by decide +kernel)⟩
theorem lw_p38 : lw_okq (⟨"MilkHorseModel", "wanting", "(I)I"⟩, 52) := ⟨⟨by decide +kernel, by decide +kernel⟩, List.mem_of_getElem? (i := 819) (by decide +kernel), List.mem_of_getElem? (i := 1107) (by decide +kernel), List.mem_of_getElem? (i := 1108) (by decide +kernel)⟩
theorem lw_p39 : lw_okq (⟨"MilkHorseModel", "goes", "(I)I"⟩, 52) := ⟨⟨by decide +kernel, by decide +kernel⟩, List.mem_of_getElem? (i := 819) (by decide +kernel), List.mem_of_getElem? (i := 1111) (by decide +kernel), List.mem_of_getElem? (i := 1112) (by decide +kernel)⟩
theorem lw_p40 : lw_okq (⟨"MilkHorseModel", "fills", "()I"⟩, 52) := ⟨⟨by decide +kernel, by decide +kernel⟩, List.mem_of_getElem? (i := 819) (by decide +kernel), List.mem_of_getElem? (i := 1115) (by decide +kernel), List.mem_of_getElem? (i := 1116) (by decide +kernel)⟩
theorem lw_p41 : lw_okq (⟨"MilkHorseModel", "serves", "(I)I"⟩, 52) := ⟨⟨by decide +kernel, by decide +kernel⟩, List.mem_of_getElem? (i := 819) (by decide +kernel), List.mem_of_getElem? (i := 1122) (by decide +kernel), List.mem_of_getElem? (i := 1123) (by decide +kernel)⟩
theorem lw_p42 : lw_okq (⟨"MilkHorseModel", "follows", "(I)V"⟩, 52) := ⟨⟨by decide +kernel, by decide +kernel⟩, List.mem_of_getElem? (i := 819) (by decide +kernel), List.mem_of_getElem? (i := 1126) (by decide +kernel), List.mem_of_getElem? (i := 1127) (by decide +kernel)⟩
theorem lw_p43 : lw_okq (⟨"MilkHorseModel", "doorOf", "(III)I"⟩, 52) := ⟨⟨by decide +kernel, by decide +kernel⟩, List.mem_of_getElem? (i := 819) (by decide +kernel), List.mem_of_getElem? (i := 1134) (by decide +kernel), List.mem_of_getElem? (i := 1135) (by decide +kernel)⟩
theorem lw_p44 : lw_okq (⟨"MilkHorseModel", "doneOf", "(I)I"⟩, 52) := ⟨⟨by decide +kernel, by decide +kernel⟩, List.mem_of_getElem? (i := 819) (by decide +kernel), List.mem_of_getElem? (i := 1142) (by decide +kernel), List.mem_of_getElem? (i := 1143) (by decide +kernel)⟩
theorem lw_p45 : lw_okq (⟨"MilkHorseModel", "sumOf", "(I)I"⟩, 52) := ⟨⟨by decide +kernel, by decide +kernel⟩, List.mem_of_getElem? (i := 819) (by decide +kernel), List.mem_of_getElem? (i := 1150) (by decide +kernel), List.mem_of_getElem? (i := 1151) (by decide +kernel)⟩
theorem lw_p46 : lw_okq (⟨"MilkHorseModel", "overOf", "()I"⟩, 52) := ⟨⟨by decide +kernel, by decide +kernel⟩, List.mem_of_getElem? (i := 819) (by decide +kernel), List.mem_of_getElem? (i := 1158) (by decide +kernel), List.mem_of_getElem? (i := 1159) (by decide +kernel)⟩
theorem lw_p47 : lw_okq (⟨"MilkHorseModel", "lacksOf", "()I"⟩, 52) := ⟨⟨by decide +kernel, by decide +kernel⟩, List.mem_of_getElem? (i := 819) (by decide +kernel), List.mem_of_getElem? (i := 1166) (by decide +kernel), List.mem_of_getElem? (i := 1167) (by decide +kernel)⟩
def lw_privs_3 : List (MethodName × Nat) := [(⟨"MilkHorseModel", "asTold", "()V"⟩, 52), (⟨"MilkHorseModel", "runs", "()V"⟩, 52), (⟨"MilkHorseModel", "runsBy", "(I)V"⟩, 52), (⟨"MilkHorseModel", "goesBy", "(I)V"⟩, 52), (⟨"MilkHorseModel", "befalls", "(I)V"⟩, 52), (⟨"MilkHorseModel", "does", "()I"⟩, 52), (⟨"MilkHorseModel", "wanting", "(I)I"⟩, 52), (⟨"MilkHorseModel", "goes", "(I)I"⟩, 52), (⟨"MilkHorseModel", "fills", "()I"⟩, 52), (⟨"MilkHorseModel", "serves", "(I)I"⟩, 52), (⟨"MilkHorseModel", "follows", "(I)V"⟩, 52), (⟨"MilkHorseModel", "doorOf", "(III)I"⟩, 52), (⟨"MilkHorseModel", "doneOf", "(I)I"⟩, 52), (⟨"MilkHorseModel", "sumOf", "(I)I"⟩, 52), (⟨"MilkHorseModel", "overOf", "()I"⟩, 52), (⟨"MilkHorseModel", "lacksOf", "()I"⟩, 52)]
theorem lw_r3 : ∀ q ∈ lw_privs_3, lw_okq q := List.forall_mem_cons.mpr ⟨lw_p32, List.forall_mem_cons.mpr ⟨lw_p33, List.forall_mem_cons.mpr ⟨lw_p34, List.forall_mem_cons.mpr ⟨lw_p35, List.forall_mem_cons.mpr ⟨lw_p36, List.forall_mem_cons.mpr ⟨lw_p37, List.forall_mem_cons.mpr ⟨lw_p38, List.forall_mem_cons.mpr ⟨lw_p39, List.forall_mem_cons.mpr ⟨lw_p40, List.forall_mem_cons.mpr ⟨lw_p41, List.forall_mem_cons.mpr ⟨lw_p42, List.forall_mem_cons.mpr ⟨lw_p43, List.forall_mem_cons.mpr ⟨lw_p44, List.forall_mem_cons.mpr ⟨lw_p45, List.forall_mem_cons.mpr ⟨lw_p46, List.forall_mem_cons.mpr ⟨lw_p47, fun _ h => absurd h List.not_mem_nil⟩⟩⟩⟩⟩⟩⟩⟩⟩⟩⟩⟩⟩⟩⟩⟩
theorem lw_p48 : lw_okq (⟨"MilkHorseModel", "shortNow", "()I"⟩, 52) := ⟨⟨by decide +kernel, by decide +kernel⟩, List.mem_of_getElem? (i := 819) (by decide +kernel), List.mem_of_getElem? (i := 1170) (by decide +kernel), List.mem_of_getElem? (i := 1171) (by decide +kernel)⟩
theorem lw_p49 : lw_okq (⟨"MilkHorseModel", "betterOf", "(I)I"⟩, 52) := ⟨⟨by decide +kernel, by decide +kernel⟩, List.mem_of_getElem? (i := 819) (by decide +kernel), List.mem_of_getElem? (i := 1178) (by decide +kernel), List.mem_of_getElem? (i := 1179) (by decide +kernel)⟩
theorem lw_p50 : lw_okq (⟨"MilkHorseModel", "starts", "()V"⟩, 52) := ⟨⟨by decide +kernel, by decide +kernel⟩, List.mem_of_getElem? (i := 819) (by decide +kernel), List.mem_of_getElem? (i := 1182) (by decide +kernel), List.mem_of_getElem? (i := 1183) (by decide +kernel)⟩
theorem lw_p51 : lw_okq (⟨"MilkHorseModel", "tries", "(I)V"⟩, 52) := ⟨⟨by decide +kernel, by decide +kernel⟩, List.mem_of_getElem? (i := 819) (by decide +kernel), List.mem_of_getElem? (i := 1186) (by decide +kernel), List.mem_of_getElem? (i := 1187) (by decide +kernel)⟩
theorem lw_p52 : lw_okq (⟨"MilkHorseModel", "manyShort", "()I"⟩, 52) := ⟨⟨by decide +kernel, by decide +kernel⟩, List.mem_of_getElem? (i := 819) (by decide +kernel), List.mem_of_getElem? (i := 1190) (by decide +kernel), List.mem_of_getElem? (i := 1191) (by decide +kernel)⟩
theorem lw_p53 : lw_okq (⟨"MilkHorseModel", "fitOf", "(I)I"⟩, 52) := ⟨⟨by decide +kernel, by decide +kernel⟩, List.mem_of_getElem? (i := 819) (by decide +kernel), List.mem_of_getElem? (i := 1198) (by decide +kernel), List.mem_of_getElem? (i := 1199) (by decide +kernel)⟩
theorem lw_p54 : lw_okq (⟨"MilkHorseModel", "swapOf", "(I)I"⟩, 52) := ⟨⟨by decide +kernel, by decide +kernel⟩, List.mem_of_getElem? (i := 819) (by decide +kernel), List.mem_of_getElem? (i := 1206) (by decide +kernel), List.mem_of_getElem? (i := 1207) (by decide +kernel)⟩
theorem lw_p55 : lw_okq (⟨"MilkHorseModel", "spareBy", "()I"⟩, 52) := ⟨⟨by decide +kernel, by decide +kernel⟩, List.mem_of_getElem? (i := 819) (by decide +kernel), List.mem_of_getElem? (i := 1214) (by decide +kernel), List.mem_of_getElem? (i := 1215) (by decide +kernel)⟩
theorem lw_p56 : lw_okq (⟨"MilkHorseModel", "isSpared", "(I)Z"⟩, 52) := ⟨⟨by decide +kernel, by decide +kernel⟩, List.mem_of_getElem? (i := 819) (by decide +kernel), List.mem_of_getElem? (i := 1218) (by decide +kernel), List.mem_of_getElem? (i := 1219) (by decide +kernel)⟩
theorem lw_p57 : lw_okq (⟨"MilkHorseModel", "ofRow", "(II)I"⟩, 52) := ⟨⟨by decide +kernel, by decide +kernel⟩, List.mem_of_getElem? (i := 819) (by decide +kernel), List.mem_of_getElem? (i := 1222) (by decide +kernel), List.mem_of_getElem? (i := 1223) (by decide +kernel)⟩
theorem lw_p58 : lw_okq (⟨"MilkHorseModel", "neverNow", "()I"⟩, 52) := ⟨⟨by decide +kernel, by decide +kernel⟩, List.mem_of_getElem? (i := 819) (by decide +kernel), List.mem_of_getElem? (i := 1238) (by decide +kernel), List.mem_of_getElem? (i := 1239) (by decide +kernel)⟩
theorem lw_p59 : lw_okq (⟨"MilkHorseModel", "isSeen", "()Z"⟩, 52) := ⟨⟨by decide +kernel, by decide +kernel⟩, List.mem_of_getElem? (i := 819) (by decide +kernel), List.mem_of_getElem? (i := 1242) (by decide +kernel), List.mem_of_getElem? (i := 1243) (by decide +kernel)⟩
theorem lw_p60 : lw_okq (⟨"MilkHorseModel", "numbersBy", "(I)I"⟩, 52) := ⟨⟨by decide +kernel, by decide +kernel⟩, List.mem_of_getElem? (i := 819) (by decide +kernel), List.mem_of_getElem? (i := 1250) (by decide +kernel), List.mem_of_getElem? (i := 1251) (by decide +kernel)⟩
theorem lw_p61 : lw_okq (⟨"MilkHorseModel", "kindsBy", "()I"⟩, 52) := ⟨⟨by decide +kernel, by decide +kernel⟩, List.mem_of_getElem? (i := 819) (by decide +kernel), List.mem_of_getElem? (i := 1258) (by decide +kernel), List.mem_of_getElem? (i := 1259) (by decide +kernel)⟩
theorem lw_p62 : lw_okq (⟨"MilkHorseModel", "roomsBy", "()I"⟩, 52) := ⟨⟨by decide +kernel, by decide +kernel⟩, List.mem_of_getElem? (i := 819) (by decide +kernel), List.mem_of_getElem? (i := 1262) (by decide +kernel), List.mem_of_getElem? (i := 1263) (by decide +kernel)⟩
theorem lw_p63 : lw_okq (⟨"MilkHorseModel", "askOf", "()I"⟩, 52) := ⟨⟨by decide +kernel, by decide +kernel⟩, List.mem_of_getElem? (i := 819) (by decide +kernel), List.mem_of_getElem? (i := 1270) (by decide +kernel), List.mem_of_getElem? (i := 1271) (by decide +kernel)⟩
def lw_privs_4 : List (MethodName × Nat) := [(⟨"MilkHorseModel", "shortNow", "()I"⟩, 52), (⟨"MilkHorseModel", "betterOf", "(I)I"⟩, 52), (⟨"MilkHorseModel", "starts", "()V"⟩, 52), (⟨"MilkHorseModel", "tries", "(I)V"⟩, 52), (⟨"MilkHorseModel", "manyShort", "()I"⟩, 52), (⟨"MilkHorseModel", "fitOf", "(I)I"⟩, 52), (⟨"MilkHorseModel", "swapOf", "(I)I"⟩, 52), (⟨"MilkHorseModel", "spareBy", "()I"⟩, 52), (⟨"MilkHorseModel", "isSpared", "(I)Z"⟩, 52), (⟨"MilkHorseModel", "ofRow", "(II)I"⟩, 52), (⟨"MilkHorseModel", "neverNow", "()I"⟩, 52), (⟨"MilkHorseModel", "isSeen", "()Z"⟩, 52), (⟨"MilkHorseModel", "numbersBy", "(I)I"⟩, 52), (⟨"MilkHorseModel", "kindsBy", "()I"⟩, 52), (⟨"MilkHorseModel", "roomsBy", "()I"⟩, 52), (⟨"MilkHorseModel", "askOf", "()I"⟩, 52)]
theorem lw_r4 : ∀ q ∈ lw_privs_4, lw_okq q := List.forall_mem_cons.mpr ⟨lw_p48, List.forall_mem_cons.mpr ⟨lw_p49, List.forall_mem_cons.mpr ⟨lw_p50, List.forall_mem_cons.mpr ⟨lw_p51, List.forall_mem_cons.mpr ⟨lw_p52, List.forall_mem_cons.mpr ⟨lw_p53, List.forall_mem_cons.mpr ⟨lw_p54, List.forall_mem_cons.mpr ⟨lw_p55, List.forall_mem_cons.mpr ⟨lw_p56, List.forall_mem_cons.mpr ⟨lw_p57, List.forall_mem_cons.mpr ⟨lw_p58, List.forall_mem_cons.mpr ⟨lw_p59, List.forall_mem_cons.mpr ⟨lw_p60, List.forall_mem_cons.mpr ⟨lw_p61, List.forall_mem_cons.mpr ⟨lw_p62, List.forall_mem_cons.mpr ⟨lw_p63, fun _ h => absurd h List.not_mem_nil⟩⟩⟩⟩⟩⟩⟩⟩⟩⟩⟩⟩⟩⟩⟩⟩
theorem lw_p64 : lw_okq (⟨"MilkHorseModel", "chanceOf", "(III)J"⟩, 52) := ⟨⟨by decide +kernel, by decide +kernel⟩, List.mem_of_getElem? (i := 819) (by decide +kernel), List.mem_of_getElem? (i := 1278) (by decide +kernel), List.mem_of_getElem? (i := 1279) (by decide +kernel)⟩
theorem lw_p65 : lw_okq (⟨"MilkHorseModel", "morningsOf", "(III)I"⟩, 52) := ⟨⟨by decide +kernel, by decide +kernel⟩, List.mem_of_getElem? (i := 819) (by decide +kernel), List.mem_of_getElem? (i := 1293) (by decide +kernel), List.mem_of_getElem? (i := 1294) (by decide +kernel)⟩
theorem lw_p66 : lw_okq (⟨"MilkHorseModel", "lacks", "(III)I"⟩, 52) := ⟨⟨by decide +kernel, by decide +kernel⟩, List.mem_of_getElem? (i := 819) (by decide +kernel), List.mem_of_getElem? (i := 1310) (by decide +kernel), List.mem_of_getElem? (i := 1311) (by decide +kernel)⟩
theorem lw_p67 : lw_okq (⟨"MilkHorseModel", "keep", "(III)V"⟩, 52) := ⟨⟨by decide +kernel, by decide +kernel⟩, List.mem_of_getElem? (i := 819) (by decide +kernel), List.mem_of_getElem? (i := 1314) (by decide +kernel), List.mem_of_getElem? (i := 1315) (by decide +kernel)⟩
theorem lw_p68 : lw_okq (⟨"MilkHorseModel", "roundsOf", "()I"⟩, 52) := ⟨⟨by decide +kernel, by decide +kernel⟩, List.mem_of_getElem? (i := 819) (by decide +kernel), List.mem_of_getElem? (i := 1335) (by decide +kernel), List.mem_of_getElem? (i := 1336) (by decide +kernel)⟩
theorem lw_p69 : lw_okq (⟨"MilkHorseModel", "shortOf", "()I"⟩, 52) := ⟨⟨by decide +kernel, by decide +kernel⟩, List.mem_of_getElem? (i := 819) (by decide +kernel), List.mem_of_getElem? (i := 1339) (by decide +kernel), List.mem_of_getElem? (i := 1340) (by decide +kernel)⟩
theorem lw_p70 : lw_okq (⟨"MilkHorseModel", "doorDigest", "(JI)J"⟩, 52) := ⟨⟨by decide +kernel, by decide +kernel⟩, List.mem_of_getElem? (i := 819) (by decide +kernel), List.mem_of_getElem? (i := 1350) (by decide +kernel), List.mem_of_getElem? (i := 1351) (by decide +kernel)⟩
theorem lw_p71 : lw_okq (⟨"MilkHorseModel", "planDigest", "(J)J"⟩, 52) := ⟨⟨by decide +kernel, by decide +kernel⟩, List.mem_of_getElem? (i := 819) (by decide +kernel), List.mem_of_getElem? (i := 1354) (by decide +kernel), List.mem_of_getElem? (i := 1355) (by decide +kernel)⟩
def lw_privs_5 : List (MethodName × Nat) := [(⟨"MilkHorseModel", "chanceOf", "(III)J"⟩, 52), (⟨"MilkHorseModel", "morningsOf", "(III)I"⟩, 52), (⟨"MilkHorseModel", "lacks", "(III)I"⟩, 52), (⟨"MilkHorseModel", "keep", "(III)V"⟩, 52), (⟨"MilkHorseModel", "roundsOf", "()I"⟩, 52), (⟨"MilkHorseModel", "shortOf", "()I"⟩, 52), (⟨"MilkHorseModel", "doorDigest", "(JI)J"⟩, 52), (⟨"MilkHorseModel", "planDigest", "(J)J"⟩, 52)]
theorem lw_r5 : ∀ q ∈ lw_privs_5, lw_okq q := List.forall_mem_cons.mpr ⟨lw_p64, List.forall_mem_cons.mpr ⟨lw_p65, List.forall_mem_cons.mpr ⟨lw_p66, List.forall_mem_cons.mpr ⟨lw_p67, List.forall_mem_cons.mpr ⟨lw_p68, List.forall_mem_cons.mpr ⟨lw_p69, List.forall_mem_cons.mpr ⟨lw_p70, List.forall_mem_cons.mpr ⟨lw_p71, fun _ h => absurd h List.not_mem_nil⟩⟩⟩⟩⟩⟩⟩⟩
def lw_privs : List (MethodName × Nat) := lw_privs_1 ++ (lw_privs_2 ++ (lw_privs_3 ++ (lw_privs_4 ++ (lw_privs_5))))
def lw_tbl : List Cond := k2_sels lw_privs ++ tables_1
theorem lw_privs_ok : ∀ q ∈ lw_privs, lw_okq q := by
  show ∀ q ∈ lw_privs_1 ++ (lw_privs_2 ++ (lw_privs_3 ++ (lw_privs_4 ++ (lw_privs_5)))), lw_okq q
  exact List.forall_mem_append.mpr ⟨lw_r1, List.forall_mem_append.mpr ⟨lw_r2, List.forall_mem_append.mpr ⟨lw_r3, List.forall_mem_append.mpr ⟨lw_r4, lw_r5⟩⟩⟩⟩

def R_law : String := "MilkHorseLaw"
def lw_P (b : Addr) (xs : List Int32) (args : Array Value) (s : State) : Prop := args = #[.ref b] ∧ s.IntsAt b xs ∧ xs.length ≤ 3072 ∧ (Jvm.Cond.and given_1 narrow_1).before args s = true
def lw_Q (_ : Array Value) (s : State) (o : Outcome) (t : State) : Prop := o = .returned (some (.int 1)) ∧ Framed s o t [] 600000 7302250
def lw_Z (below : List Frame) (a : Array Value) (s : State) : State → Prop := fun t => ∃ o, t.status = .running ∧ Ended t below o ∧ lw_Q a s o t
/-- the law's own end, with 1 on the stack, nothing written that was there before, its room as the claim has it -/
theorem lw_ret {p : Program} {l : Launch} {e : Env} {s : State} {m : MethodId} {below : List Frame} {meth : Method} {c : Code} {b : Nat} (hx : p.tables.exec = Jvm.exec) (hb : c.code = code) (hr : meth.sig.returnType = ret) (hlocks : meth.locks = false) {pc : Nat} {H : Heap} {ls : Array Slot} (hdg : decode code pc = .ok (.ireturn, 1)) : W p l e room_1 s m #[Value.ref b] below meth c H [] 600000 7302250 (lw_Z below #[Value.ref b] s) (F0 m pc ls [.int 1]) := by
  intro T hT X
  obtain ⟨fs, hret, hrun, hended, hW, hframe⟩ := X.leave (v := some (.int 1)) (hlocks := hlocks) (fun h => by rw [hr] at h; cases h)
  have hmeth' : T.vm.method? m = some meth := X.method'
  refine ⟨T.setFrames fs, ?_, .returned (some (.int 1)), hrun, hended, rfl, ⟨_, rfl⟩, hW, hframe⟩
  jvm_step X.here [X.here.top, hx, hb, hdg, hmeth', hr, ret, narrow_b1]
  (try refine ⟨rfl, ?_⟩); (try refine ⟨rfl, ?_⟩)
  first | (intro acts; rw [hret _ acts rfl rfl rfl]) | rw [hret _ _ rfl rfl rfl]
  exact Steps.refl _
/-- what holds at the law's entry: the machine, the code, the tables' words (any of lw_tbl by 'hts w (by decide +kernel)'), the script of L ints xs at the cell b, what the Statement gives of the start (any of its parts by flat_of_before) -/
def lw_At (p : Program) (s : State) (m : MethodId) (meth : Method) (c : Code) (b L : Nat) (xs : Nat → Int32) : Prop :=
  p.tables.exec = Jvm.exec ∧ c.code = code ∧ meth.sig.returnType = ret ∧ c.maxLocals = 4 ∧ s.vm.findClass R_law = some m.cls ∧ (∀ w ∈ lw_tbl, w.before #[Value.ref b] s = true) ∧ va_X b L xs s s.heap ∧ b < s.heap.size ∧ meth.locks = false ∧ (Jvm.Cond.and given_1 narrow_1).before #[Value.ref b] s = true

/-- the words that hold at every call too -/
def am_tbl : List Cond := lw_tbl.filter goodWord
theorem am_mem {w : Cond} {i : Nat} (hi : tables_1[i]? = some w) (hg : goodWord w = true) : w ∈ am_tbl := List.mem_filter.mpr ⟨List.mem_append_right _ (List.mem_of_getElem? hi), hg⟩
theorem am_memS {w : Cond} {i : Nat} (hi : (k2_sels lw_privs)[i]? = some w) (hg : goodWord w = true) : w ∈ am_tbl := List.mem_filter.mpr ⟨List.mem_append_left _ (List.mem_of_getElem? hi), hg⟩
def am_isN : Cond → Bool
  | .fieldLinkNest .. => true
  | .methodLinkNest .. => true
  | _ => false
/-- the links to nest mates: they hold at every call too, but not as words -/
def am_nest : List Cond := tables_1.filter am_isN
theorem am_memN {w : Cond} {i : Nat} (hi : tables_1[i]? = some w) (hg : am_isN w = true) : w ∈ am_nest := List.mem_filter.mpr ⟨List.mem_of_getElem? hi, hg⟩
def am_N (U : State) : Prop := ∀ w ∈ am_nest, va_Nw w U
theorem am_N_warm {s U : State} (hW : s.WarmedH U.vm) (h : am_N s) : am_N U := by
  intro w hw
  have h1 := h w hw
  have h2 := (List.mem_filter.mp hw).2
  cases w with
  | fieldLinkNest a i b n d h => exact va_Nw.warmF hW h1
  | methodLinkNest a i x h => exact va_Nw.warmM hW h1
  | _ => cases h2
theorem am_N_vm {u U : State} (hv : u.vm = U.vm) (h : am_N u) : am_N U := by
  intro w hw
  have h1 := h w hw
  have h2 := (List.mem_filter.mp hw).2
  cases w with
  | fieldLinkNest a i b n d h => exact va_tabs rfl hv h1
  | methodLinkNest a i x h => exact va_tabs rfl hv h1
  | _ => cases h2
theorem am_N_of {s : State} {args : Array Value} (h : ∀ w ∈ lw_tbl, w.before args s = true) : am_N s := by
  intro w hw
  obtain ⟨h1, h2⟩ := List.mem_filter.mp hw
  have h3 := h w (List.mem_append_right _ h1)
  cases w with
  | fieldLinkNest a i b n d h => exact va_tabs rfl rfl h3
  | methodLinkNest a i x h => exact va_tabs rfl rfl h3
  | _ => cases h2
theorem am_good : GoodIn lw_tbl am_tbl := fun w hw => ⟨(List.mem_filter.mp hw).1, good_of_word (List.mem_filter.mp hw).2⟩
theorem am_goodS : GoodIn am_tbl am_tbl := fun w hw => ⟨hw, good_of_word (List.mem_filter.mp hw).2⟩
def R_0 : String := "MilkHorse$Chances"
def F_0 : u_T := fun k => match k with
  | 0 => ("MilkHorse$Chances", "lacking", "[I", true)
  | 1 => ("MilkHorse$Chances", "weights", "[J", true)
  | _ => ("MilkHorse$Chances", "known", "Z", false)
def t_0 : Nat → FieldType := fun k => match k with
  | 0 => .array (.int)
  | 1 => .array (.long)
  | _ => .boolean
theorem n_0 : ∀ a, a < 3 → ∀ b, b < 3 → a ≠ b → (F_0 a).2.1 ≠ (F_0 b).2.1 := by decide +kernel
theorem t_0_ok : ∀ k, k < 3 → parseFieldDescriptor (F_0 k).2.2.1 = some (t_0 k) := by decide +kernel
theorem i_0 : ∀ w ∈ u_ws R_0 F_0 3, w ∈ lw_tbl := by
  have h : u_ws R_0 F_0 3 = ([302, 304, 306] : List Nat).filterMap (fun i => tables_1[i]?) := by decide +kernel
  intro w hw
  rw [h] at hw
  obtain ⟨i, -, hi⟩ := List.mem_filterMap.mp hw
  exact List.mem_append_right _ (List.mem_of_getElem? hi)
theorem ig_0 : ∀ w ∈ u_ws R_0 F_0 3, w ∈ am_tbl := by
  have h : (u_ws R_0 F_0 3).all goodWord = true := by decide +kernel
  intro w hw
  exact List.mem_filter.mpr ⟨i_0 w hw, List.all_eq_true.mp h w hw⟩
def R_1 : String := "MilkHorse$Choice"
def F_1 : u_T := fun k => match k with
  | 0 => ("MilkHorse$Choice", "first", "I", false)
  | 1 => ("MilkHorse$Choice", "second", "I", false)
  | 2 => ("MilkHorse$Choice", "lacking", "I", false)
  | 3 => ("MilkHorse$Choice", "walked", "I", false)
  | _ => ("MilkHorse$Choice", "known", "Z", false)
def t_1 : Nat → FieldType := fun k => match k with
  | 0 => .int
  | 1 => .int
  | 2 => .int
  | 3 => .int
  | _ => .boolean
theorem n_1 : ∀ a, a < 5 → ∀ b, b < 5 → a ≠ b → (F_1 a).2.1 ≠ (F_1 b).2.1 := by decide +kernel
theorem t_1_ok : ∀ k, k < 5 → parseFieldDescriptor (F_1 k).2.2.1 = some (t_1 k) := by decide +kernel
theorem i_1 : ∀ w ∈ u_ws R_1 F_1 5, w ∈ lw_tbl := by
  have h : u_ws R_1 F_1 5 = ([257, 259, 261, 263, 265] : List Nat).filterMap (fun i => tables_1[i]?) := by decide +kernel
  intro w hw
  rw [h] at hw
  obtain ⟨i, -, hi⟩ := List.mem_filterMap.mp hw
  exact List.mem_append_right _ (List.mem_of_getElem? hi)
theorem ig_1 : ∀ w ∈ u_ws R_1 F_1 5, w ∈ am_tbl := by
  have h : (u_ws R_1 F_1 5).all goodWord = true := by decide +kernel
  intro w hw
  exact List.mem_filter.mpr ⟨i_1 w hw, List.all_eq_true.mp h w hw⟩
def R_2 : String := "MilkHorse$Day"
def F_2 : u_T := fun k => match k with
  | 0 => ("MilkHorse$Day", "acts", "[I", true)
  | 1 => ("MilkHorse$Day", "doors", "[I", true)
  | 2 => ("MilkHorse$Day", "doneIn", "[I", true)
  | 3 => ("MilkHorse$Day", "sums", "[I", true)
  | 4 => ("MilkHorse$Day", "overIn", "I", false)
  | 5 => ("MilkHorse$Day", "lacking", "I", false)
  | _ => ("MilkHorse$Day", "known", "Z", false)
def t_2 : Nat → FieldType := fun k => match k with
  | 0 => .array (.int)
  | 1 => .array (.int)
  | 2 => .array (.int)
  | 3 => .array (.int)
  | 4 => .int
  | 5 => .int
  | _ => .boolean
theorem n_2 : ∀ a, a < 7 → ∀ b, b < 7 → a ≠ b → (F_2 a).2.1 ≠ (F_2 b).2.1 := by decide +kernel
theorem t_2_ok : ∀ k, k < 7 → parseFieldDescriptor (F_2 k).2.2.1 = some (t_2 k) := by decide +kernel
theorem i_2 : ∀ w ∈ u_ws R_2 F_2 7, w ∈ lw_tbl := by
  have h : u_ws R_2 F_2 7 = ([229, 231, 233, 235, 237, 239, 241] : List Nat).filterMap (fun i => tables_1[i]?) := by decide +kernel
  intro w hw
  rw [h] at hw
  obtain ⟨i, -, hi⟩ := List.mem_filterMap.mp hw
  exact List.mem_append_right _ (List.mem_of_getElem? hi)
theorem ig_2 : ∀ w ∈ u_ws R_2 F_2 7, w ∈ am_tbl := by
  have h : (u_ws R_2 F_2 7).all goodWord = true := by decide +kernel
  intro w hw
  exact List.mem_filter.mpr ⟨i_2 w hw, List.all_eq_true.mp h w hw⟩
def R_3 : String := "MilkHorse$Events"
def F_3 : u_T := fun k => match k with
  | 0 => ("MilkHorse$Events", "kinds", "[I", true)
  | 1 => ("MilkHorse$Events", "minutes", "[I", true)
  | 2 => ("MilkHorse$Events", "numbers", "[I", true)
  | _ => ("MilkHorse$Events", "many", "I", false)
def t_3 : Nat → FieldType := fun k => match k with
  | 0 => .array (.int)
  | 1 => .array (.int)
  | 2 => .array (.int)
  | _ => .int
theorem n_3 : ∀ a, a < 4 → ∀ b, b < 4 → a ≠ b → (F_3 a).2.1 ≠ (F_3 b).2.1 := by decide +kernel
theorem t_3_ok : ∀ k, k < 4 → parseFieldDescriptor (F_3 k).2.2.1 = some (t_3 k) := by decide +kernel
theorem i_3 : ∀ w ∈ u_ws R_3 F_3 4, w ∈ lw_tbl := by
  have h : u_ws R_3 F_3 4 = ([64, 66, 68, 70] : List Nat).filterMap (fun i => tables_1[i]?) := by decide +kernel
  intro w hw
  rw [h] at hw
  obtain ⟨i, -, hi⟩ := List.mem_filterMap.mp hw
  exact List.mem_append_right _ (List.mem_of_getElem? hi)
theorem ig_3 : ∀ w ∈ u_ws R_3 F_3 4, w ∈ am_tbl := by
  have h : (u_ws R_3 F_3 4).all goodWord = true := by decide +kernel
  intro w hw
  exact List.mem_filter.mpr ⟨i_3 w hw, List.all_eq_true.mp h w hw⟩
def R_4 : String := "MilkHorse$Plan"
def F_4 : u_T := fun k => match k with
  | 0 => ("MilkHorse$Plan", "wants", "[I", true)
  | 1 => ("MilkHorse$Plan", "empties", "[I", true)
  | 2 => ("MilkHorse$Plan", "round", "[I", true)
  | 3 => ("MilkHorse$Plan", "places", "I", false)
  | 4 => ("MilkHorse$Plan", "horse", "I", false)
  | 5 => ("MilkHorse$Plan", "room", "I", false)
  | 6 => ("MilkHorse$Plan", "cart", "I", false)
  | _ => ("MilkHorse$Plan", "absent", "I", false)
def t_4 : Nat → FieldType := fun k => match k with
  | 0 => .array (.int)
  | 1 => .array (.int)
  | 2 => .array (.int)
  | 3 => .int
  | 4 => .int
  | 5 => .int
  | 6 => .int
  | _ => .int
theorem n_4 : ∀ a, a < 8 → ∀ b, b < 8 → a ≠ b → (F_4 a).2.1 ≠ (F_4 b).2.1 := by decide +kernel
theorem t_4_ok : ∀ k, k < 8 → parseFieldDescriptor (F_4 k).2.2.1 = some (t_4 k) := by decide +kernel
theorem i_4 : ∀ w ∈ u_ws R_4 F_4 8, w ∈ lw_tbl := by
  have h : u_ws R_4 F_4 8 = ([118, 120, 122, 124, 126, 128, 130, 132] : List Nat).filterMap (fun i => tables_1[i]?) := by decide +kernel
  intro w hw
  rw [h] at hw
  obtain ⟨i, -, hi⟩ := List.mem_filterMap.mp hw
  exact List.mem_append_right _ (List.mem_of_getElem? hi)
theorem ig_4 : ∀ w ∈ u_ws R_4 F_4 8, w ∈ am_tbl := by
  have h : (u_ws R_4 F_4 8).all goodWord = true := by decide +kernel
  intro w hw
  exact List.mem_filter.mpr ⟨i_4 w hw, List.all_eq_true.mp h w hw⟩
def R_5 : String := "MilkHorse$Sheet"
def F_5 : u_T := fun k => match k with
  | 0 => ("MilkHorse$Sheet", "items", "[I", true)
  | 1 => ("MilkHorse$Sheet", "form", "I", false)
  | 2 => ("MilkHorse$Sheet", "length", "I", false)
  | _ => ("MilkHorse$Sheet", "lost", "Z", false)
def t_5 : Nat → FieldType := fun k => match k with
  | 0 => .array (.int)
  | 1 => .int
  | 2 => .int
  | _ => .boolean
theorem n_5 : ∀ a, a < 4 → ∀ b, b < 4 → a ≠ b → (F_5 a).2.1 ≠ (F_5 b).2.1 := by decide +kernel
theorem t_5_ok : ∀ k, k < 4 → parseFieldDescriptor (F_5 k).2.2.1 = some (t_5 k) := by decide +kernel
theorem i_5 : ∀ w ∈ u_ws R_5 F_5 4, w ∈ lw_tbl := by
  have h : u_ws R_5 F_5 4 = ([325, 327, 329, 331] : List Nat).filterMap (fun i => tables_1[i]?) := by decide +kernel
  intro w hw
  rw [h] at hw
  obtain ⟨i, -, hi⟩ := List.mem_filterMap.mp hw
  exact List.mem_append_right _ (List.mem_of_getElem? hi)
theorem ig_5 : ∀ w ∈ u_ws R_5 F_5 4, w ∈ am_tbl := by
  have h : (u_ws R_5 F_5 4).all goodWord = true := by decide +kernel
  intro w hw
  exact List.mem_filter.mpr ⟨i_5 w hw, List.all_eq_true.mp h w hw⟩
def R_6 : String := "MilkHorse$Sights"
def F_6 : u_T := fun k => match k with
  | 0 => ("MilkHorse$Sights", "minutes", "[I", true)
  | 1 => ("MilkHorse$Sights", "doors", "[I", true)
  | _ => ("MilkHorse$Sights", "many", "I", false)
def t_6 : Nat → FieldType := fun k => match k with
  | 0 => .array (.int)
  | 1 => .array (.int)
  | _ => .int
theorem n_6 : ∀ a, a < 3 → ∀ b, b < 3 → a ≠ b → (F_6 a).2.1 ≠ (F_6 b).2.1 := by decide +kernel
theorem t_6_ok : ∀ k, k < 3 → parseFieldDescriptor (F_6 k).2.2.1 = some (t_6 k) := by decide +kernel
theorem i_6 : ∀ w ∈ u_ws R_6 F_6 3, w ∈ lw_tbl := by
  have h : u_ws R_6 F_6 3 = ([83, 85, 87] : List Nat).filterMap (fun i => tables_1[i]?) := by decide +kernel
  intro w hw
  rw [h] at hw
  obtain ⟨i, -, hi⟩ := List.mem_filterMap.mp hw
  exact List.mem_append_right _ (List.mem_of_getElem? hi)
theorem ig_6 : ∀ w ∈ u_ws R_6 F_6 3, w ∈ am_tbl := by
  have h : (u_ws R_6 F_6 3).all goodWord = true := by decide +kernel
  intro w hw
  exact List.mem_filter.mpr ⟨i_6 w hw, List.all_eq_true.mp h w hw⟩
def R_7 : String := "MilkHorse$Spared"
def F_7 : u_T := fun k => match k with
  | 0 => ("MilkHorse$Spared", "many", "I", false)
  | 1 => ("MilkHorse$Spared", "first", "I", false)
  | 2 => ("MilkHorse$Spared", "second", "I", false)
  | _ => ("MilkHorse$Spared", "known", "Z", false)
def t_7 : Nat → FieldType := fun k => match k with
  | 0 => .int
  | 1 => .int
  | 2 => .int
  | _ => .boolean
theorem n_7 : ∀ a, a < 4 → ∀ b, b < 4 → a ≠ b → (F_7 a).2.1 ≠ (F_7 b).2.1 := by decide +kernel
theorem t_7_ok : ∀ k, k < 4 → parseFieldDescriptor (F_7 k).2.2.1 = some (t_7 k) := by decide +kernel
theorem i_7 : ∀ w ∈ u_ws R_7 F_7 4, w ∈ lw_tbl := by
  have h : u_ws R_7 F_7 4 = ([282, 284, 286, 288] : List Nat).filterMap (fun i => tables_1[i]?) := by decide +kernel
  intro w hw
  rw [h] at hw
  obtain ⟨i, -, hi⟩ := List.mem_filterMap.mp hw
  exact List.mem_append_right _ (List.mem_of_getElem? hi)
theorem ig_7 : ∀ w ∈ u_ws R_7 F_7 4, w ∈ am_tbl := by
  have h : (u_ws R_7 F_7 4).all goodWord = true := by decide +kernel
  intro w hw
  exact List.mem_filter.mpr ⟨i_7 w hw, List.all_eq_true.mp h w hw⟩
def R_8 : String := "MilkHorse$Text"
def F_8 : u_T := fun k => match k with
  | 0 => ("MilkHorse$Text", "bytes", "[I", true)
  | 1 => ("MilkHorse$Text", "most", "I", true)
  | 2 => ("MilkHorse$Text", "low", "I", true)
  | 3 => ("MilkHorse$Text", "high", "I", true)
  | _ => ("MilkHorse$Text", "length", "I", false)
def t_8 : Nat → FieldType := fun k => match k with
  | 0 => .array (.int)
  | 1 => .int
  | 2 => .int
  | 3 => .int
  | _ => .int
theorem n_8 : ∀ a, a < 5 → ∀ b, b < 5 → a ≠ b → (F_8 a).2.1 ≠ (F_8 b).2.1 := by decide +kernel
theorem t_8_ok : ∀ k, k < 5 → parseFieldDescriptor (F_8 k).2.2.1 = some (t_8 k) := by decide +kernel
theorem i_8 : ∀ w ∈ u_ws R_8 F_8 5, w ∈ lw_tbl := by
  have h : u_ws R_8 F_8 5 = ([37, 39, 41, 43, 45] : List Nat).filterMap (fun i => tables_1[i]?) := by decide +kernel
  intro w hw
  rw [h] at hw
  obtain ⟨i, -, hi⟩ := List.mem_filterMap.mp hw
  exact List.mem_append_right _ (List.mem_of_getElem? hi)
theorem ig_8 : ∀ w ∈ u_ws R_8 F_8 5, w ∈ am_tbl := by
  have h : (u_ws R_8 F_8 5).all goodWord = true := by decide +kernel
  intro w hw
  exact List.mem_filter.mpr ⟨i_8 w hw, List.all_eq_true.mp h w hw⟩
def R_9 : String := "MilkHorse$Walk"
def F_9 : u_T := fun k => match k with
  | 0 => ("MilkHorse$Walk", "laid", "[I", true)
  | 1 => ("MilkHorse$Walk", "standing", "[I", true)
  | 2 => ("MilkHorse$Walk", "empties", "[I", true)
  | 3 => ("MilkHorse$Walk", "trace", "[I", true)
  | 4 => ("MilkHorse$Walk", "man", "I", false)
  | 5 => ("MilkHorse$Walk", "cart", "I", false)
  | 6 => ("MilkHorse$Walk", "cartHas", "I", false)
  | 7 => ("MilkHorse$Walk", "crateFull", "I", false)
  | 8 => ("MilkHorse$Walk", "crateEmpties", "I", false)
  | 9 => ("MilkHorse$Walk", "place", "I", false)
  | 10 => ("MilkHorse$Walk", "cartWasBare", "Z", false)
  | 11 => ("MilkHorse$Walk", "dogs", "I", false)
  | 12 => ("MilkHorse$Walk", "did", "I", false)
  | 13 => ("MilkHorse$Walk", "walked", "I", false)
  | 14 => ("MilkHorse$Walk", "filled", "I", false)
  | 15 => ("MilkHorse$Walk", "broken", "I", false)
  | _ => ("MilkHorse$Walk", "brought", "I", false)
def t_9 : Nat → FieldType := fun k => match k with
  | 0 => .array (.int)
  | 1 => .array (.int)
  | 2 => .array (.int)
  | 3 => .array (.int)
  | 4 => .int
  | 5 => .int
  | 6 => .int
  | 7 => .int
  | 8 => .int
  | 9 => .int
  | 10 => .boolean
  | 11 => .int
  | 12 => .int
  | 13 => .int
  | 14 => .int
  | 15 => .int
  | _ => .int
theorem n_9 : ∀ a, a < 17 → ∀ b, b < 17 → a ≠ b → (F_9 a).2.1 ≠ (F_9 b).2.1 := by decide +kernel
theorem t_9_ok : ∀ k, k < 17 → parseFieldDescriptor (F_9 k).2.2.1 = some (t_9 k) := by decide +kernel
theorem i_9 : ∀ w ∈ u_ws R_9 F_9 17, w ∈ lw_tbl := by
  have h : u_ws R_9 F_9 17 = ([174, 176, 178, 180, 182, 184, 186, 188, 190, 192, 194, 196, 198, 200, 202, 204, 206] : List Nat).filterMap (fun i => tables_1[i]?) := by decide +kernel
  intro w hw
  rw [h] at hw
  obtain ⟨i, -, hi⟩ := List.mem_filterMap.mp hw
  exact List.mem_append_right _ (List.mem_of_getElem? hi)
theorem ig_9 : ∀ w ∈ u_ws R_9 F_9 17, w ∈ am_tbl := by
  have h : (u_ws R_9 F_9 17).all goodWord = true := by decide +kernel
  intro w hw
  exact List.mem_filter.mpr ⟨i_9 w hw, List.all_eq_true.mp h w hw⟩
def R_10 : String := "MilkHorse"
def F_10 : u_T := fun k => match k with
  | 0 => ("MilkHorse", "wantsText", "LMilkHorse$Text;", true)
  | 1 => ("MilkHorse", "emptiesText", "LMilkHorse$Text;", true)
  | 2 => ("MilkHorse", "roundText", "LMilkHorse$Text;", true)
  | 3 => ("MilkHorse", "events", "LMilkHorse$Events;", true)
  | 4 => ("MilkHorse", "sights", "LMilkHorse$Sights;", true)
  | 5 => ("MilkHorse", "told", "LMilkHorse$Plan;", true)
  | 6 => ("MilkHorse", "trial", "LMilkHorse$Plan;", true)
  | 7 => ("MilkHorse", "walk", "LMilkHorse$Walk;", true)
  | 8 => ("MilkHorse", "day", "LMilkHorse$Day;", true)
  | 9 => ("MilkHorse", "horses", "LMilkHorse$Choice;", true)
  | 10 => ("MilkHorse", "rooms", "LMilkHorse$Choice;", true)
  | 11 => ("MilkHorse", "swaps", "LMilkHorse$Choice;", true)
  | 12 => ("MilkHorse", "spared", "LMilkHorse$Spared;", true)
  | 13 => ("MilkHorse", "chances", "LMilkHorse$Chances;", true)
  | 14 => ("MilkHorse", "crowds", "[I", true)
  | 15 => ("MilkHorse", "sheets", "[LMilkHorse$Sheet;", true)
  | _ => ("MilkHorse", "finding", "I", false)
def t_10 : Nat → FieldType := fun k => match k with
  | 0 => .object "MilkHorse$Text"
  | 1 => .object "MilkHorse$Text"
  | 2 => .object "MilkHorse$Text"
  | 3 => .object "MilkHorse$Events"
  | 4 => .object "MilkHorse$Sights"
  | 5 => .object "MilkHorse$Plan"
  | 6 => .object "MilkHorse$Plan"
  | 7 => .object "MilkHorse$Walk"
  | 8 => .object "MilkHorse$Day"
  | 9 => .object "MilkHorse$Choice"
  | 10 => .object "MilkHorse$Choice"
  | 11 => .object "MilkHorse$Choice"
  | 12 => .object "MilkHorse$Spared"
  | 13 => .object "MilkHorse$Chances"
  | 14 => .array (.int)
  | 15 => .array (.object "MilkHorse$Sheet")
  | _ => .int
theorem n_10 : ∀ a, a < 17 → ∀ b, b < 17 → a ≠ b → (F_10 a).2.1 ≠ (F_10 b).2.1 := by decide +kernel
theorem t_10_ok : ∀ k, k < 17 → parseFieldDescriptor (F_10 k).2.2.1 = some (t_10 k) := by decide +kernel
theorem i_10 : ∀ w ∈ u_ws R_10 F_10 17, w ∈ lw_tbl := by
  have h : u_ws R_10 F_10 17 = ([351, 353, 355, 357, 359, 361, 363, 365, 367, 369, 371, 373, 375, 377, 379, 381, 383] : List Nat).filterMap (fun i => tables_1[i]?) := by decide +kernel
  intro w hw
  rw [h] at hw
  obtain ⟨i, -, hi⟩ := List.mem_filterMap.mp hw
  exact List.mem_append_right _ (List.mem_of_getElem? hi)
theorem ig_10 : ∀ w ∈ u_ws R_10 F_10 17, w ∈ am_tbl := by
  have h : (u_ws R_10 F_10 17).all goodWord = true := by decide +kernel
  intro w hw
  exact List.mem_filter.mpr ⟨i_10 w hw, List.all_eq_true.mp h w hw⟩
def R_11 : String := "MilkHorseModel"
def F_11 : u_T := fun k => match k with
  | 0 => ("MilkHorseModel", "typed", "[I", true)
  | 1 => ("MilkHorseModel", "texts", "[I", true)
  | 2 => ("MilkHorseModel", "wants", "[I", true)
  | 3 => ("MilkHorseModel", "empties", "[I", true)
  | 4 => ("MilkHorseModel", "rounds", "I", false)
  | 5 => ("MilkHorseModel", "roundTold", "[I", true)
  | 6 => ("MilkHorseModel", "settings", "[I", true)
  | 7 => ("MilkHorseModel", "events", "I", false)
  | 8 => ("MilkHorseModel", "eventKind", "[I", true)
  | 9 => ("MilkHorseModel", "eventAt", "[I", true)
  | 10 => ("MilkHorseModel", "eventNumber", "[I", true)
  | 11 => ("MilkHorseModel", "wantNow", "[I", true)
  | 12 => ("MilkHorseModel", "roundNow", "[I", true)
  | 13 => ("MilkHorseModel", "horseNow", "I", false)
  | 14 => ("MilkHorseModel", "roomNow", "I", false)
  | 15 => ("MilkHorseModel", "notEvents", "I", false)
  | 16 => ("MilkHorseModel", "man", "I", false)
  | 17 => ("MilkHorseModel", "cart", "I", false)
  | 18 => ("MilkHorseModel", "full", "I", false)
  | 19 => ("MilkHorseModel", "used", "I", false)
  | 20 => ("MilkHorseModel", "stock", "I", false)
  | 21 => ("MilkHorseModel", "at", "I", false)
  | 22 => ("MilkHorseModel", "isOver", "Z", false)
  | 23 => ("MilkHorseModel", "dogs", "I", false)
  | 24 => ("MilkHorseModel", "walked", "I", false)
  | 25 => ("MilkHorseModel", "filled", "I", false)
  | 26 => ("MilkHorseModel", "broken", "I", false)
  | 27 => ("MilkHorseModel", "brought", "I", false)
  | 28 => ("MilkHorseModel", "restsAt", "I", false)
  | 29 => ("MilkHorseModel", "laid", "[I", true)
  | 30 => ("MilkHorseModel", "stands", "[I", true)
  | 31 => ("MilkHorseModel", "left", "[I", true)
  | 32 => ("MilkHorseModel", "doneAt", "[I", true)
  | 33 => ("MilkHorseModel", "manAt", "[I", true)
  | 34 => ("MilkHorseModel", "cartAt", "[I", true)
  | 35 => ("MilkHorseModel", "fullAt", "[I", true)
  | 36 => ("MilkHorseModel", "usedAt", "[I", true)
  | 37 => ("MilkHorseModel", "didAt", "[I", true)
  | 38 => ("MilkHorseModel", "bestNow", "I", false)
  | 39 => ("MilkHorseModel", "fewest", "I", false)
  | 40 => ("MilkHorseModel", "nearest", "I", false)
  | 41 => ("MilkHorseModel", "planRow", "[I", true)
  | 42 => ("MilkHorseModel", "seens", "I", false)
  | 43 => ("MilkHorseModel", "seenAt", "[I", true)
  | 44 => ("MilkHorseModel", "seenDoor", "[I", true)
  | 45 => ("MilkHorseModel", "manBy", "[I", true)
  | 46 => ("MilkHorseModel", "isThere", "[Z", true)
  | 47 => ("MilkHorseModel", "forms", "[I", true)
  | 48 => ("MilkHorseModel", "sizes", "[I", true)
  | 49 => ("MilkHorseModel", "items", "[I", true)
  | 50 => ("MilkHorseModel", "moved", "[I", true)
  | _ => ("MilkHorseModel", "finding", "I", false)
def t_11 : Nat → FieldType := fun k => match k with
  | 0 => .array (.int)
  | 1 => .array (.int)
  | 2 => .array (.int)
  | 3 => .array (.int)
  | 4 => .int
  | 5 => .array (.int)
  | 6 => .array (.int)
  | 7 => .int
  | 8 => .array (.int)
  | 9 => .array (.int)
  | 10 => .array (.int)
  | 11 => .array (.int)
  | 12 => .array (.int)
  | 13 => .int
  | 14 => .int
  | 15 => .int
  | 16 => .int
  | 17 => .int
  | 18 => .int
  | 19 => .int
  | 20 => .int
  | 21 => .int
  | 22 => .boolean
  | 23 => .int
  | 24 => .int
  | 25 => .int
  | 26 => .int
  | 27 => .int
  | 28 => .int
  | 29 => .array (.int)
  | 30 => .array (.int)
  | 31 => .array (.int)
  | 32 => .array (.int)
  | 33 => .array (.int)
  | 34 => .array (.int)
  | 35 => .array (.int)
  | 36 => .array (.int)
  | 37 => .array (.int)
  | 38 => .int
  | 39 => .int
  | 40 => .int
  | 41 => .array (.int)
  | 42 => .int
  | 43 => .array (.int)
  | 44 => .array (.int)
  | 45 => .array (.int)
  | 46 => .array (.boolean)
  | 47 => .array (.int)
  | 48 => .array (.int)
  | 49 => .array (.int)
  | 50 => .array (.int)
  | _ => .int
theorem n_11 : ∀ a, a < 52 → ∀ b, b < 52 → a ≠ b → (F_11 a).2.1 ≠ (F_11 b).2.1 := by decide +kernel
theorem t_11_ok : ∀ k, k < 52 → parseFieldDescriptor (F_11 k).2.2.1 = some (t_11 k) := by decide +kernel
theorem i_11 : ∀ w ∈ u_ws R_11 F_11 52, w ∈ lw_tbl := by
  have h : u_ws R_11 F_11 52 = ([876, 878, 880, 882, 884, 886, 888, 890, 892, 894, 896, 898, 900, 902, 904, 906, 908, 910, 912, 914, 916, 918, 920, 922, 924, 926, 928, 930, 932, 934, 936, 938, 940, 942, 944, 946, 948, 950, 952, 954, 956, 958, 960, 962, 964, 966, 968, 970, 972, 974, 976, 978] : List Nat).filterMap (fun i => tables_1[i]?) := by decide +kernel
  intro w hw
  rw [h] at hw
  obtain ⟨i, -, hi⟩ := List.mem_filterMap.mp hw
  exact List.mem_append_right _ (List.mem_of_getElem? hi)
theorem ig_11 : ∀ w ∈ u_ws R_11 F_11 52, w ∈ am_tbl := by
  have h : (u_ws R_11 F_11 52).all goodWord = true := by decide +kernel
  intro w hw
  exact List.mem_filter.mpr ⟨i_11 w hw, List.all_eq_true.mp h w hw⟩
def am_cl : List vw_C := [(R_0, F_0, 3), (R_1, F_1, 5), (R_2, F_2, 7), (R_3, F_3, 4), (R_4, F_4, 8), (R_5, F_5, 4), (R_6, F_6, 3), (R_7, F_7, 4), (R_8, F_8, 5), (R_9, F_9, 17), (R_10, F_10, 17), (R_11, F_11, 52)]
end
section
def am_tags : List Nat := [10, 8, 100, 8, 100, 8, 100, 3, 100, 100, 100, 6, 100, 100, 4, 100, 100, 100, 4, 100, 100, 100, 9, 100, 100, 100, 100, 2, 100, 100, 100, 100, 1, 1, 1, 7, 0, 100, 102, 100, 103, 5, 100, 5, 100, 5, 100, 5, 100, 11, 100, 100, 100, 100, 100, 100, 100, 100, 100, 100, 100, 100, 100, 100, 100, 100, 100, 100, 100, 100, 100, 100, 100, 100, 101, 100, 100, 100, 100]
def am_lens : List Nat := [0, 0, 24, 0, 24, 0, 24, 0, 8, 8, 8, 0, 8, 8, 0, 12, 12, 24, 0, 12, 12, 24, 0, 12, 12, 12, 48, 0, 240, 1728, 12, 5, 0, 0, 0, 0, 0, 256, 9, 576, 4, 0, 60, 0, 60, 0, 60, 0, 60, 0, 3, 72, 12, 12, 24, 3, 8, 8, 8, 12, 24, 12, 12, 12, 12, 48, 48, 48, 48, 48, 2, 8, 8, 432, 4, 4, 4, 240, 60]
def am_rhos : List (List Nat) := [[1, 3, 5, 7, 11, 14, 18, 22, 27, 32, 33, 34, 35, 36, 39, 40, 0], [2, 0, 0, 0, 0], [], [4, 0, 0, 0, 0], [], [6, 0, 0, 0, 0], [], [8, 9, 10, 0], [], [], [], [12, 13, 0], [], [], [15, 16, 17, 0, 0, 0, 0, 0], [], [], [], [19, 20, 21, 0, 0, 0, 0, 0], [], [], [], [23, 24, 25, 26, 0, 0, 0, 0, 0, 0, 0, 0, 0, 0, 0, 0, 0], [], [], [], [], [28, 29, 30, 31, 0, 0, 0], [], [], [], [], [0, 0, 0, 0, 0], [0, 0, 0, 0, 0], [0, 0, 0, 0, 0], [0, 0, 0, 0], [37, 38, 0], [], [], [], [41, 43, 45, 47], [42, 0, 0, 0], [], [44, 0, 0, 0], [], [46, 0, 0, 0], [], [48, 0, 0, 0], [], [50, 51, 52, 53, 0, 54, 55, 0, 56, 57, 58, 59, 60, 0, 0, 0, 0, 0, 0, 0, 0, 0, 0, 0, 0, 0, 0, 0, 0, 61, 62, 63, 64, 65, 66, 67, 68, 69, 0, 0, 0, 70, 0, 71, 72, 73, 74, 75, 76, 77, 78, 0], [], [], [], [], [], [], [], [], [], [], [], [], [], [], [], [], [], [], [], [], [], [], [], [], [], [], [], [], []]
def am_refs : List (List Bool) := [[true, true, false], [false, false, false, false, false], [true, true, true, true, false, false, false], [true, true, true, false], [true, true, true, false, false, false, false, false], [true, false, false, false], [true, true, false], [false, false, false, false], [true, false, false, false, false], [true, true, true, true, false, false, false, false, false, false, false, false, false, false, false, false, false], [true, true, true, true, true, true, true, true, true, true, true, true, true, true, true, true, false], [true, true, true, true, false, true, true, false, true, true, true, true, true, false, false, false, false, false, false, false, false, false, false, false, false, false, false, false, false, true, true, true, true, true, true, true, true, true, false, false, false, true, false, true, true, true, true, true, true, true, true, false]]
def am_bools : List (List Bool) := [[false, false, true], [false, false, false, false, true], [false, false, false, false, false, false, true], [false, false, false, false], [false, false, false, false, false, false, false, false], [false, false, false, true], [false, false, false], [false, false, false, true], [false, false, false, false, false], [false, false, false, false, false, false, false, false, false, false, true, false, false, false, false, false, false], [false, false, false, false, false, false, false, false, false, false, false, false, false, false, false, false, false], [false, false, false, false, false, false, false, false, false, false, false, false, false, false, false, false, false, false, false, false, false, false, true, false, false, false, false, false, false, false, false, false, false, false, false, false, false, false, false, false, false, false, false, false, false, false, false, false, false, false, false, false]]
def am_nfs : List Nat := [3, 5, 7, 4, 8, 4, 3, 4, 5, 17, 17, 52]
abbrev am_D : Type := Nat → Nat → Int32
abbrev am_L : Type := Nat → Int64
abbrev am_K : Type := Option Value → am_D → am_L → Prop
abbrev am_Sp : Type := List Value → am_D → am_L → am_K → Prop
abbrev am_V : Type := List (Option Value)
abbrev am_X : Type := Nat → am_V → List Value → am_D → am_L → Prop
/-- an instruction: itself, the next pc, three numbers, an int, a long -/
abbrev am_I : Type := Instr × Nat × Nat × Nat × Nat × Int32 × Int64
def am_tag (k : Nat) : Nat := am_tags.getD k 999
def am_len (k : Nat) : Nat := am_lens.getD k 0
def am_rho (k j : Nat) : Nat := (am_rhos.getD k []).getD j 0
def am_isr (c j : Nat) : Bool := (am_refs.getD c []).getD j false
def am_isz (c j : Nat) : Bool := (am_bools.getD c []).getD j false
def am_nf (c : Nat) : Nat := am_nfs.getD c 0
def am_up (D : am_D) (k j : Nat) (v : Int32) : am_D := fun q => if q = k then upd (D k) j v else D q
def am_gl : am_V → Nat → Option Value
  | [], _ => none
  | a :: _, 0 => a
  | _ :: t, n + 1 => am_gl t n
/-- a value of one slot into a local; a long that it cuts is gone -/
def am_s1 : am_V → Nat → Value → (am_V → Prop) → Prop
  | [], _, _, _ => False
  | _ :: t, 0, v, k => k (some v :: t)
  | a :: t, n + 1, v, k => match n with
    | 0 => (match a with
      | some (.long _) => am_s1 t 0 v (fun t' => k (none :: t'))
      | some (.double _) => am_s1 t 0 v (fun t' => k (none :: t'))
      | a' => am_s1 t 0 v (fun t' => k (a' :: t')))
    | n' + 1 => am_s1 t (n' + 1) v (fun t' => k (a :: t'))
/-- a long into two locals -/
def am_s2 : am_V → Nat → Value → (am_V → Prop) → Prop
  | [], _, _, _ => False
  | _ :: t, 0, v, k => (match t with
    | [] => False
    | _ :: t' => k (some v :: none :: t'))
  | a :: t, n + 1, v, k => match n with
    | 0 => (match a with
      | some (.long _) => am_s2 t 0 v (fun t' => k (none :: t'))
      | some (.double _) => am_s2 t 0 v (fun t' => k (none :: t'))
      | a' => am_s2 t 0 v (fun t' => k (a' :: t')))
    | n' + 1 => am_s2 t (n' + 1) v (fun t' => k (a :: t'))
def am_pop : Nat → List Value → List Value → (List Value → List Value → Prop) → Prop
  | 0, st, acc, k => k acc st
  | _ + 1, [], _, _ => False
  | n + 1, v :: st, acc, k => am_pop n st (v :: acc) k
def am_nth {α : Type} : List α → Nat → (α → Prop) → Prop
  | [], _, _ => False
  | x :: _, 0, c => c x
  | _ :: t, n + 1, c => am_nth t n c
def am_w8 : List Value → Nat
  | [] => 0
  | .long _ :: t => am_w8 t + 2
  | .double _ :: t => am_w8 t + 2
  | _ :: t => am_w8 t + 1
/-- calls and ends -/
def am_sE (F : Nat → am_Sp) (K : am_K) (ins : Instr) (nx a b d : Nat) (ls : am_V) (st : List Value) (D : am_D) (L : am_L) (X : am_X) : Prop := match ins with
  | .invokevirtual _ => am_pop b st [] (fun as r => match as with
    | .ref k :: as' => (match Nat.beq (am_tag k) d with
      | true => (match Nat.ble (am_w8 r) 8 with
        | true => F a (.ref k :: as') D L (fun q D' L' => match q with
          | some v => X nx ls (v :: r) D' L'
          | none => X nx ls r D' L')
        | false => False)
      | false => False)
    | _ => False)
  | .invokestatic _ => am_pop b st [] (fun as r => match Nat.ble (am_w8 r) 8 with
    | true => F a as D L (fun q D' L' => match q with
      | some v => X nx ls (v :: r) D' L'
      | none => X nx ls r D' L')
    | false => False)
  | .ireturn => (match st with
    | [.int x] => (match b with
      | 0 => K (some (.int x)) D L
      | _ => (x = 0 ∨ x = 1) ∧ K (some (.int x)) D L)
    | _ => False)
  | .lreturn => (match st with
    | [.long x] => K (some (.long x)) D L
    | _ => False)
  | .areturn => (match st with
    | [.ref x] => K (some (.ref x)) D L
    | [.null] => K (some .null) D L
    | _ => False)
  | .return_ => (match st with
    | [] => K none D L
    | _ => False)
  | _ => False
/-- the heap -/
def am_sD (lw : Bool) (n : Nat) (F : Nat → am_Sp) (K : am_K) (ins : Instr) (nx a b d : Nat) (v : Int32) (ls : am_V) (st : List Value) (D : am_D) (L : am_L) (X : am_X) : Prop := match ins with
  | .getfield _ => (match st with
    | .ref k :: r => (match Nat.beq (am_tag k) b with
      | true => (match d with
        | 0 => X nx ls (.int (D k a) :: r) D L
        | _ => am_nth am_rhos k (fun row => am_nth row a (fun q => X nx ls (.ref q :: r) D L)))
      | false => False)
    | _ => False)
  | .putfield _ => (match st with
    | .int x :: .ref k :: r => (match Nat.beq (am_tag k) b with
      | true => (match d with
        | 0 => X nx ls r (am_up D k a x) L
        | _ => (x = 0 ∨ x = 1) ∧ X nx ls r (am_up D k a x) L)
      | false => False)
    | _ => False)
  | .iaload => (match st with
    | .int i :: .ref k :: r => (match Nat.beq (am_tag k) 100 with
      | true => vp_in i (am_len k) ∧ X nx ls (.int (D k i.toNatClampNeg) :: r) D L
      | false => (match lw with
        | true => (match Nat.beq k 79 with
          | true => vp_in i n ∧ X nx ls (.int (D 79 i.toNatClampNeg) :: r) D L
          | false => False)
        | false => False))
    | _ => False)
  | .iastore => (match st with
    | .int x :: .int i :: .ref k :: r => (match Nat.beq (am_tag k) 100 with
      | true => vp_in i (am_len k) ∧ X nx ls r (am_up D k i.toNatClampNeg x) L
      | false => False)
    | _ => False)
  | .baload => (match st with
    | .int i :: .ref k :: r => (match Nat.beq (am_tag k) 101 with
      | true => vp_in i (am_len k) ∧ X nx ls (.int (D k i.toNatClampNeg) :: r) D L
      | false => False)
    | _ => False)
  | .bastore => (match st with
    | .int x :: .int i :: .ref k :: r => (match Nat.beq (am_tag k) 101 with
      | true => (x = 0 ∨ x = 1) ∧ vp_in i (am_len k) ∧ X nx ls r (am_up D k i.toNatClampNeg x) L
      | false => False)
    | _ => False)
  | .laload => (match st with
    | .int i :: .ref k :: r => (match Nat.beq (am_tag k) 102 with
      | true => vp_in i (am_len k) ∧ X nx ls (.long (L i.toNatClampNeg) :: r) D L
      | false => False)
    | _ => False)
  | .lastore => (match st with
    | .long x :: .int i :: .ref k :: r => (match Nat.beq (am_tag k) 102 with
      | true => vp_in i (am_len k) ∧ X nx ls r D (vp_updL L i.toNatClampNeg x)
      | false => False)
    | _ => False)
  | .aaload => (match st with
    | .int i :: .ref k :: r => (match Nat.beq (am_tag k) 103 with
      | true => vp_in i (am_len k) ∧ X nx ls (.ref (am_rho k i.toNatClampNeg) :: r) D L
      | false => False)
    | _ => False)
  | .arraylength => (match st with
    | .ref k :: r => (match Nat.ble 100 (am_tag k) with
      | true => (match Nat.ble (am_tag k) 103 with
        | true => X nx ls (.int (Int32.ofNat (am_len k)) :: r) D L
        | false => (match lw with
          | true => (match Nat.beq k 79 with
            | true => X nx ls (.int (Int32.ofNat n) :: r) D L
            | false => False)
          | false => False))
      | false => False)
    | _ => False)
  | ins => am_sE F K ins nx a b d ls st D L X
/-- branches -/
def am_sC (lw : Bool) (n : Nat) (F : Nat → am_Sp) (K : am_K) (pc : Nat) (ins : Instr) (nx a b d : Nat) (v : Int32) (ls : am_V) (st : List Value) (D : am_D) (L : am_L) (X : am_X) : Prop := match ins with
  | .goto _ => X a ls st D L
  | .if_icmp cd _ => (match st with
    | .int y :: .int x :: r => (match cd with
      | .eq => (x = y → X a ls r D L) ∧ (¬ x = y → X nx ls r D L)
      | .ne => (¬ x = y → X a ls r D L) ∧ (x = y → X nx ls r D L)
      | .lt => (x < y → X a ls r D L) ∧ (¬ x < y → X nx ls r D L)
      | .ge => (y ≤ x → X a ls r D L) ∧ (¬ y ≤ x → X nx ls r D L)
      | .gt => (y < x → X a ls r D L) ∧ (¬ y < x → X nx ls r D L)
      | .le => (x ≤ y → X a ls r D L) ∧ (¬ x ≤ y → X nx ls r D L))
    | _ => False)
  | .ifCond cd _ => (match st with
    | .int x :: r => (match cd with
      | .eq => (x = 0 → X a ls r D L) ∧ (¬ x = 0 → X nx ls r D L)
      | .ne => (¬ x = 0 → X a ls r D L) ∧ (x = 0 → X nx ls r D L)
      | .lt => (x < 0 → X a ls r D L) ∧ (¬ x < 0 → X nx ls r D L)
      | .ge => (0 ≤ x → X a ls r D L) ∧ (¬ 0 ≤ x → X nx ls r D L)
      | .gt => (0 < x → X a ls r D L) ∧ (¬ 0 < x → X nx ls r D L)
      | .le => (x ≤ 0 → X a ls r D L) ∧ (¬ x ≤ 0 → X nx ls r D L))
    | _ => False)
  | .ifnull _ => (match st with
    | .ref _ :: r => X nx ls r D L
    | .null :: r => X a ls r D L
    | _ => False)
  | .ifnonnull _ => (match st with
    | .ref _ :: r => X a ls r D L
    | .null :: r => X nx ls r D L
    | _ => False)
  | .tableswitch _ lo hi offs => (match st with
    | .int x :: r => (∀ (i : Nat) (o : Int), offs[i]? = some o → x.toInt = lo + i → X ((pc : Int) + o).toNat ls r D L) ∧ (x.toInt < lo ∨ hi < x.toInt → X a ls r D L)
    | _ => False)
  | ins => am_sD lw n F K ins nx a b d v ls st D L X
/-- arithmetic -/
def am_sB (lw : Bool) (n : Nat) (F : Nat → am_Sp) (K : am_K) (pc : Nat) (ins : Instr) (nx a b d : Nat) (v : Int32) (ls : am_V) (st : List Value) (D : am_D) (L : am_L) (X : am_X) : Prop := match ins with
  | .iadd => (match st with
    | .int y :: .int x :: r => X nx ls (.int (x + y) :: r) D L
    | _ => False)
  | .isub => (match st with
    | .int y :: .int x :: r => X nx ls (.int (x - y) :: r) D L
    | _ => False)
  | .imul => (match st with
    | .int y :: .int x :: r => X nx ls (.int (x * y) :: r) D L
    | _ => False)
  | .iand => (match st with
    | .int y :: .int x :: r => X nx ls (.int (x &&& y) :: r) D L
    | _ => False)
  | .ior => (match st with
    | .int y :: .int x :: r => X nx ls (.int (x ||| y) :: r) D L
    | _ => False)
  | .ixor => (match st with
    | .int y :: .int x :: r => X nx ls (.int (x ^^^ y) :: r) D L
    | _ => False)
  | .ishl => (match st with
    | .int y :: .int x :: r => X nx ls (.int (x <<< (y &&& 31)) :: r) D L
    | _ => False)
  | .ishr => (match st with
    | .int y :: .int x :: r => X nx ls (.int (x >>> (y &&& 31)) :: r) D L
    | _ => False)
  | .iushr => (match st with
    | .int y :: .int x :: r => X nx ls (.int ((x.toUInt32 >>> (y.toUInt32 &&& Int32.toUInt32 31)).toInt32) :: r) D L
    | _ => False)
  | .idiv => (match st with
    | .int y :: .int x :: r => ¬ y = 0 ∧ X nx ls (.int (x / y) :: r) D L
    | _ => False)
  | .irem => (match st with
    | .int y :: .int x :: r => ¬ y = 0 ∧ X nx ls (.int (x - x / y * y) :: r) D L
    | _ => False)
  | .ineg => (match st with
    | .int x :: r => X nx ls (.int (-x) :: r) D L
    | _ => False)
  | .ladd => (match st with
    | .long y :: .long x :: r => X nx ls (.long (x + y) :: r) D L
    | _ => False)
  | .lsub => (match st with
    | .long y :: .long x :: r => X nx ls (.long (x - y) :: r) D L
    | _ => False)
  | .lmul => (match st with
    | .long y :: .long x :: r => X nx ls (.long (x * y) :: r) D L
    | _ => False)
  | .ldiv => (match st with
    | .long y :: .long x :: r => ¬ y = 0 ∧ X nx ls (.long (x / y) :: r) D L
    | _ => False)
  | .lrem => (match st with
    | .long y :: .long x :: r => ¬ y = 0 ∧ X nx ls (.long (x - x / y * y) :: r) D L
    | _ => False)
  | .lshl => (match st with
    | .int y :: .long x :: r => X nx ls (.long (x <<< (y.toInt64 &&& 63)) :: r) D L
    | _ => False)
  | .lcmp => (match st with
    | .long y :: .long x :: r => X nx ls (.int (lg_cmp x y) :: r) D L
    | _ => False)
  | .i2l => (match st with
    | .int x :: r => X nx ls (.long x.toInt64 :: r) D L
    | _ => False)
  | .i2b => (match st with
    | .int x :: r => X nx ls (.int x.toInt8.toInt32 :: r) D L
    | _ => False)
  | .i2s => (match st with
    | .int x :: r => X nx ls (.int x.toInt16.toInt32 :: r) D L
    | _ => False)
  | ins => am_sC lw n F K pc ins nx a b d v ls st D L X
/-- constants, locals, the stack -/
def am_sA (lw : Bool) (n : Nat) (F : Nat → am_Sp) (K : am_K) (pc : Nat) (ins : Instr) (nx a b d : Nat) (v : Int32) (w : Int64) (ls : am_V) (st : List Value) (D : am_D) (L : am_L) (X : am_X) : Prop := match ins with
  | .iconst _ => X nx ls (.int v :: st) D L
  | .bipush _ => X nx ls (.int v :: st) D L
  | .sipush _ => X nx ls (.int v :: st) D L
  | .ldc _ => X nx ls (.int v :: st) D L
  | .ldc_w _ => X nx ls (.int v :: st) D L
  | .lconst _ => X nx ls (.long w :: st) D L
  | .ldc2_w _ => X nx ls (.long w :: st) D L
  | .aconst_null => X nx ls (.null :: st) D L
  | .iload _ => (match am_gl ls a with
    | some (.int x) => X nx ls (.int x :: st) D L
    | _ => False)
  | .iload_n _ => (match am_gl ls a with
    | some (.int x) => X nx ls (.int x :: st) D L
    | _ => False)
  | .lload _ => (match am_gl ls a with
    | some (.long x) => X nx ls (.long x :: st) D L
    | _ => False)
  | .lload_n _ => (match am_gl ls a with
    | some (.long x) => X nx ls (.long x :: st) D L
    | _ => False)
  | .aload _ => (match am_gl ls a with
    | some (.ref x) => X nx ls (.ref x :: st) D L
    | some .null => X nx ls (.null :: st) D L
    | _ => False)
  | .aload_n _ => (match am_gl ls a with
    | some (.ref x) => X nx ls (.ref x :: st) D L
    | some .null => X nx ls (.null :: st) D L
    | _ => False)
  | .istore _ => (match st with
    | .int x :: r => am_s1 ls a (.int x) (fun ls' => X nx ls' r D L)
    | _ => False)
  | .istore_n _ => (match st with
    | .int x :: r => am_s1 ls a (.int x) (fun ls' => X nx ls' r D L)
    | _ => False)
  | .lstore _ => (match st with
    | .long x :: r => am_s2 ls a (.long x) (fun ls' => X nx ls' r D L)
    | _ => False)
  | .lstore_n _ => (match st with
    | .long x :: r => am_s2 ls a (.long x) (fun ls' => X nx ls' r D L)
    | _ => False)
  | .astore _ => (match st with
    | .ref x :: r => am_s1 ls a (.ref x) (fun ls' => X nx ls' r D L)
    | .null :: r => am_s1 ls a .null (fun ls' => X nx ls' r D L)
    | _ => False)
  | .astore_n _ => (match st with
    | .ref x :: r => am_s1 ls a (.ref x) (fun ls' => X nx ls' r D L)
    | .null :: r => am_s1 ls a .null (fun ls' => X nx ls' r D L)
    | _ => False)
  | .iinc _ _ => (match am_gl ls a with
    | some (.int x) => am_s1 ls a (.int (x + v)) (fun ls' => X nx ls' st D L)
    | _ => False)
  | .dup => (match st with
    | .int x :: r => X nx ls (.int x :: .int x :: r) D L
    | .ref x :: r => X nx ls (.ref x :: .ref x :: r) D L
    | _ => False)
  | .dup2 => (match st with
    | .int x :: .ref y :: r => X nx ls (.int x :: .ref y :: .int x :: .ref y :: r) D L
    | _ => False)
  | .pop => (match st with
    | .int _ :: r => X nx ls r D L
    | _ => False)
  | ins => am_sB lw n F K pc ins nx a b d v ls st D L X
def am_st (lw : Bool) (n : Nat) (C : Nat → Option am_I) (F : Nat → am_Sp) (K : am_K) (pc : Nat) (ls : am_V) (st : List Value) (D : am_D) (L : am_L) (X : am_X) : Prop := match C pc with
  | some (ins, nx, a, b, d, v, w) => am_sA lw n F K pc ins nx a b d v w ls st D L X
  | none => False
/-- it comes to an end, and K holds there -/
def am_Wp (lw : Bool) (n : Nat) (C : Nat → Option am_I) (F : Nat → am_Sp) (K : am_K) : am_X := fun pc ls st D L =>
  ∀ X : am_X, (∀ pc ls st D L, am_st lw n C F K pc ls st D L X → X pc ls st D L) → X pc ls st D L
/-- up to k steps, or to one of the places hs -/
def am_bl (lw : Bool) (n : Nat) (C : Nat → Option am_I) (F : Nat → am_Sp) (K : am_K) (X : am_X) (hs : List Nat) : Nat → am_X
  | 0 => X
  | k + 1 => fun pc ls st D L => am_st lw n C F K pc ls st D L (fun pc' ls' st' D' L' => match hs.elem pc' with
    | true => X pc' ls' st' D' L'
    | false => am_bl lw n C F K X hs k pc' ls' st' D' L')
end
section
/-! the abstract machine's rules: monotone, unfolding, blocks -/
def am_mono (S : am_Sp) : Prop := ∀ (as : List Value) (D : am_D) (L : am_L) (K K' : am_K), (∀ r D L, K r D L → K' r D L) → S as D L K → S as D L K'
theorem am_s1_ex : ∀ (ls : am_V) (i : Nat) (v : Value) (k : am_V → Prop), am_s1 ls i v k → ∃ ls' : am_V, k ls' ∧ (∀ k' : am_V → Prop, k' ls' → am_s1 ls i v k') ∧ ∀ (j : Nat) (v' : Value), am_gl ls' j = some v' → (j = i ∧ v' = v) ∨ (j ≠ i ∧ am_gl ls j = some v' ∧ ¬ (j + 1 = i ∧ v'.category = 2))
  | [], _, _, _, h => absurd h id
  | b :: t, 0, v, k, h => by
    simp only [am_s1] at h
    refine ⟨_, h, fun k' h' => by simpa only [am_s1] using h', fun j v' hj => ?_⟩
    cases j with
    | zero => simp only [am_gl, Option.some.injEq] at hj; exact Or.inl ⟨rfl, hj.symm⟩
    | succ j => exact Or.inr ⟨by omega, hj, by omega⟩
  | a :: t, 0 + 1, v, k, h => by
    simp only [am_s1] at h
    split at h
    · rename_i x
      obtain ⟨l, h1, h2, h3⟩ := am_s1_ex t 0 v _ h
      refine ⟨_, h1, fun k' h' => by simp only [am_s1]; exact h2 _ h', fun j v' hj => ?_⟩
      cases j with
      | zero => simp [am_gl] at hj
      | succ j =>
        rcases h3 j v' hj with ⟨q1, q2⟩ | ⟨q1, q2, q3⟩
        · exact Or.inl ⟨by omega, q2⟩
        · exact Or.inr ⟨by omega, q2, by omega⟩
    · rename_i x
      obtain ⟨l, h1, h2, h3⟩ := am_s1_ex t 0 v _ h
      refine ⟨_, h1, fun k' h' => by simp only [am_s1]; exact h2 _ h', fun j v' hj => ?_⟩
      cases j with
      | zero => simp [am_gl] at hj
      | succ j =>
        rcases h3 j v' hj with ⟨q1, q2⟩ | ⟨q1, q2, q3⟩
        · exact Or.inl ⟨by omega, q2⟩
        · exact Or.inr ⟨by omega, q2, by omega⟩
    · rename_i n1 n2
      obtain ⟨l, h1, h2, h3⟩ := am_s1_ex t 0 v _ h
      refine ⟨_, h1, fun k' h' => ?_, fun j v' hj => ?_⟩
      · simp only [am_s1]
        exact h2 _ h'
      · cases j with
        | zero =>
          simp only [am_gl] at hj
          refine Or.inr ⟨by omega, hj, fun q => ?_⟩
          subst hj
          cases v' <;> simp_all [Value.category]
        | succ j =>
          rcases h3 j v' hj with ⟨q1, q2⟩ | ⟨q1, q2, q3⟩
          · exact Or.inl ⟨by omega, q2⟩
          · exact Or.inr ⟨by omega, q2, by omega⟩
  | a :: t, (n + 1) + 1, v, k, h => by
    simp only [am_s1] at h
    obtain ⟨l, h1, h2, h3⟩ := am_s1_ex t (n + 1) v _ h
    refine ⟨_, h1, fun k' h' => by simp only [am_s1]; exact h2 _ h', fun j v' hj => ?_⟩
    cases j with
    | zero => simp only [am_gl] at hj; exact Or.inr ⟨by omega, hj, by omega⟩
    | succ j =>
      rcases h3 j v' hj with ⟨q1, q2⟩ | ⟨q1, q2, q3⟩
      · exact Or.inl ⟨by omega, q2⟩
      · exact Or.inr ⟨by omega, q2, by omega⟩
theorem am_s2_ex : ∀ (ls : am_V) (i : Nat) (v : Value) (k : am_V → Prop), am_s2 ls i v k → ∃ ls' : am_V, k ls' ∧ (∀ k' : am_V → Prop, k' ls' → am_s2 ls i v k') ∧ ∀ (j : Nat) (v' : Value), am_gl ls' j = some v' → (j = i ∧ v' = v) ∨ (j ≠ i ∧ j ≠ i + 1 ∧ am_gl ls j = some v' ∧ ¬ (j + 1 = i ∧ v'.category = 2))
  | [], _, _, _, h => absurd h id
  | b :: [], 0, v, k, h => absurd h id
  | b :: b2 :: t, 0, v, k, h => by
    simp only [am_s2] at h
    refine ⟨_, h, fun k' h' => by simpa only [am_s2] using h', fun j v' hj => ?_⟩
    match j, hj with
    | 0, hj => simp only [am_gl, Option.some.injEq] at hj; exact Or.inl ⟨rfl, hj.symm⟩
    | 1, hj => simp [am_gl] at hj
    | j + 2, hj => exact Or.inr ⟨by omega, by omega, hj, by omega⟩
  | a :: t, 0 + 1, v, k, h => by
    simp only [am_s2] at h
    split at h
    · rename_i x
      obtain ⟨l, h1, h2, h3⟩ := am_s2_ex t 0 v _ h
      refine ⟨_, h1, fun k' h' => by simp only [am_s2]; exact h2 _ h', fun j v' hj => ?_⟩
      cases j with
      | zero => simp [am_gl] at hj
      | succ j =>
        rcases h3 j v' hj with ⟨q1, q2⟩ | ⟨q1, q1', q2, q3⟩
        · exact Or.inl ⟨by omega, q2⟩
        · exact Or.inr ⟨by omega, by omega, q2, by omega⟩
    · rename_i x
      obtain ⟨l, h1, h2, h3⟩ := am_s2_ex t 0 v _ h
      refine ⟨_, h1, fun k' h' => by simp only [am_s2]; exact h2 _ h', fun j v' hj => ?_⟩
      cases j with
      | zero => simp [am_gl] at hj
      | succ j =>
        rcases h3 j v' hj with ⟨q1, q2⟩ | ⟨q1, q1', q2, q3⟩
        · exact Or.inl ⟨by omega, q2⟩
        · exact Or.inr ⟨by omega, by omega, q2, by omega⟩
    · rename_i n1 n2
      obtain ⟨l, h1, h2, h3⟩ := am_s2_ex t 0 v _ h
      refine ⟨_, h1, fun k' h' => ?_, fun j v' hj => ?_⟩
      · simp only [am_s2]
        exact h2 _ h'
      · cases j with
        | zero =>
          simp only [am_gl] at hj
          refine Or.inr ⟨by omega, by omega, hj, fun q => ?_⟩
          subst hj
          cases v' <;> simp_all [Value.category]
        | succ j =>
          rcases h3 j v' hj with ⟨q1, q2⟩ | ⟨q1, q1', q2, q3⟩
          · exact Or.inl ⟨by omega, q2⟩
          · exact Or.inr ⟨by omega, by omega, q2, by omega⟩
  | a :: t, (n + 1) + 1, v, k, h => by
    simp only [am_s2] at h
    obtain ⟨l, h1, h2, h3⟩ := am_s2_ex t (n + 1) v _ h
    refine ⟨_, h1, fun k' h' => by simp only [am_s2]; exact h2 _ h', fun j v' hj => ?_⟩
    cases j with
    | zero => simp only [am_gl] at hj; exact Or.inr ⟨by omega, by omega, hj, by omega⟩
    | succ j =>
      rcases h3 j v' hj with ⟨q1, q2⟩ | ⟨q1, q1', q2, q3⟩
      · exact Or.inl ⟨by omega, q2⟩
      · exact Or.inr ⟨by omega, by omega, q2, by omega⟩
theorem am_s1_mono {ls : am_V} {i : Nat} {v : Value} {k k' : am_V → Prop} (hk : ∀ l, k l → k' l) (h : am_s1 ls i v k) : am_s1 ls i v k' := by
  obtain ⟨l, h1, h2, -⟩ := am_s1_ex ls i v k h
  exact h2 _ (hk _ h1)
theorem am_s2_mono {ls : am_V} {i : Nat} {v : Value} {k k' : am_V → Prop} (hk : ∀ l, k l → k' l) (h : am_s2 ls i v k) : am_s2 ls i v k' := by
  obtain ⟨l, h1, h2, -⟩ := am_s2_ex ls i v k h
  exact h2 _ (hk _ h1)
theorem am_pop_ex : ∀ (b : Nat) (st acc : List Value) (k : List Value → List Value → Prop), am_pop b st acc k → ∃ as r, k (as ++ acc) r ∧ st = as.reverse ++ r ∧ as.length = b ∧ ∀ k' : List Value → List Value → Prop, k' (as ++ acc) r → am_pop b st acc k'
  | 0, st, acc, k, h => ⟨[], st, h, rfl, rfl, fun _ h' => h'⟩
  | n + 1, [], acc, k, h => absurd h id
  | n + 1, v :: st, acc, k, h => by
    obtain ⟨as, r, h1, h2, h3, h4⟩ := am_pop_ex n st (v :: acc) k h
    refine ⟨as ++ [v], r, by simpa using h1, by simp [h2], by simp [h3], fun k' h' => h4 _ (by simpa using h')⟩
theorem am_nth_ex {α : Type} : ∀ (l : List α) (n : Nat) (c : α → Prop), am_nth l n c → ∃ x, l[n]? = some x ∧ c x
  | [], _, _, h => absurd h id
  | x :: _, 0, _, h => ⟨x, rfl, h⟩
  | _ :: t, n + 1, c, h => am_nth_ex t n c h
theorem am_nth_mono {α : Type} : ∀ {l : List α} {n : Nat} {c c' : α → Prop}, (∀ x, c x → c' x) → am_nth l n c → am_nth l n c'
  | [], _, _, _, _, h => h
  | x :: _, 0, _, _, hc, h => hc x h
  | _ :: t, n + 1, _, _, hc, h => am_nth_mono (l := t) hc h
section MO
variable {lw : Bool} {n : Nat} {F : Nat → am_Sp} {K K' : am_K} {pc : Nat} {ins : Instr} {nx a b d : Nat} {v : Int32} {w : Int64} {ls : am_V} {st : List Value} {D : am_D} {L : am_L} {X X' : am_X}
theorem am_sE_mono (hF : ∀ a, am_mono (F a)) (hK : ∀ r D L, K r D L → K' r D L) (hX : ∀ pc ls st D L, X pc ls st D L → X' pc ls st D L) (h : am_sE F K ins nx a b d ls st D L X) : am_sE F K' ins nx a b d ls st D L X' := by
  unfold am_sE at h ⊢
  split at h
  · obtain ⟨as, r, h1, -, -, h4⟩ := am_pop_ex _ _ _ _ h
    refine h4 _ ?_
    split at h1
    · rename_i k as' e
      split at h1
      · split at h1
        · refine hF _ _ _ _ _ _ (fun r D L hq => ?_) h1
          cases r with
          | none => exact hX _ _ _ _ _ hq
          | some v => exact hX _ _ _ _ _ hq
        · exact h1
      · exact h1
    · exact absurd h1 id
  · obtain ⟨as, r, h1, -, -, h4⟩ := am_pop_ex _ _ _ _ h
    refine h4 _ ?_
    split at h1
    · refine hF _ _ _ _ _ _ (fun r D L hq => ?_) h1
      cases r with
      | none => exact hX _ _ _ _ _ hq
      | some v => exact hX _ _ _ _ _ hq
    · exact h1
  · split at h
    · split at h
      · exact hK _ _ _ h
      · exact ⟨h.1, hK _ _ _ h.2⟩
    · exact absurd h id
  · split at h
    · exact hK _ _ _ h
    · exact absurd h id
  · split at h
    · exact hK _ _ _ h
    · exact hK _ _ _ h
    · exact absurd h id
  · split at h
    · exact hK _ _ _ h
    · exact absurd h id
  · exact absurd h id
theorem am_sD_mono (hF : ∀ a, am_mono (F a)) (hK : ∀ r D L, K r D L → K' r D L) (hX : ∀ pc ls st D L, X pc ls st D L → X' pc ls st D L) (h : am_sD lw n F K ins nx a b d v ls st D L X) : am_sD lw n F K' ins nx a b d v ls st D L X' := by
  unfold am_sD at h ⊢
  split at h
  all_goals first
    | exact am_sE_mono hF hK hX h
    | (repeat' split at h
       all_goals first
         | exact absurd h id
         | exact hX _ _ _ _ _ h
         | exact ⟨h.1, hX _ _ _ _ _ h.2⟩
         | exact ⟨h.1, h.2.1, hX _ _ _ _ _ h.2.2⟩
         | exact am_nth_mono (fun _ q => am_nth_mono (fun _ q => hX _ _ _ _ _ q) q) h)
theorem am_sC_mono (hF : ∀ a, am_mono (F a)) (hK : ∀ r D L, K r D L → K' r D L) (hX : ∀ pc ls st D L, X pc ls st D L → X' pc ls st D L) (h : am_sC lw n F K pc ins nx a b d v ls st D L X) : am_sC lw n F K' pc ins nx a b d v ls st D L X' := by
  unfold am_sC at h ⊢
  split at h
  all_goals first
    | exact am_sD_mono hF hK hX h
    | (repeat' split at h
       all_goals first
         | exact absurd h id
         | exact hX _ _ _ _ _ h
         | exact ⟨fun q => hX _ _ _ _ _ (h.1 q), fun q => hX _ _ _ _ _ (h.2 q)⟩
         | exact ⟨fun i o q1 q2 => hX _ _ _ _ _ (h.1 i o q1 q2), fun q => hX _ _ _ _ _ (h.2 q)⟩)
theorem am_sB_mono (hF : ∀ a, am_mono (F a)) (hK : ∀ r D L, K r D L → K' r D L) (hX : ∀ pc ls st D L, X pc ls st D L → X' pc ls st D L) (h : am_sB lw n F K pc ins nx a b d v ls st D L X) : am_sB lw n F K' pc ins nx a b d v ls st D L X' := by
  unfold am_sB at h ⊢
  split at h
  all_goals first
    | exact am_sC_mono hF hK hX h
    | (repeat' split at h
       all_goals first
         | exact absurd h id
         | exact hX _ _ _ _ _ h
         | exact ⟨h.1, hX _ _ _ _ _ h.2⟩)
theorem am_sA_mono (hF : ∀ a, am_mono (F a)) (hK : ∀ r D L, K r D L → K' r D L) (hX : ∀ pc ls st D L, X pc ls st D L → X' pc ls st D L) (h : am_sA lw n F K pc ins nx a b d v w ls st D L X) : am_sA lw n F K' pc ins nx a b d v w ls st D L X' := by
  unfold am_sA at h ⊢
  split at h
  all_goals first
    | exact hX _ _ _ _ _ h
    | exact am_sB_mono hF hK hX h
    | (repeat' split at h
       all_goals first
         | exact absurd h id
         | exact hX _ _ _ _ _ h
         | exact am_s1_mono (fun l hl => hX _ _ _ _ _ hl) h
         | exact am_s2_mono (fun l hl => hX _ _ _ _ _ hl) h)
theorem am_st_mono {C : Nat → Option am_I} (hF : ∀ a, am_mono (F a)) (hK : ∀ r D L, K r D L → K' r D L) (hX : ∀ pc ls st D L, X pc ls st D L → X' pc ls st D L) (h : am_st lw n C F K pc ls st D L X) : am_st lw n C F K' pc ls st D L X' := by
  unfold am_st at h ⊢
  split at h
  · exact am_sA_mono hF hK hX h
  · exact absurd h id
theorem am_Wp_st {C : Nat → Option am_I} (hF : ∀ a, am_mono (F a)) (h : am_st lw n C F K pc ls st D L (am_Wp lw n C F K)) : am_Wp lw n C F K pc ls st D L := fun X hX => hX _ _ _ _ _ (am_st_mono hF (fun _ _ _ h => h) (fun _ _ _ _ _ h' => h' X hX) h)
theorem am_Wp_bl {C : Nat → Option am_I} (hF : ∀ a, am_mono (F a)) (hs : List Nat) : ∀ (k pc : Nat) (ls : am_V) (st : List Value) (D : am_D) (L : am_L), am_bl lw n C F K (am_Wp lw n C F K) hs k pc ls st D L → am_Wp lw n C F K pc ls st D L
  | 0, _, _, _, _, _, h => h
  | k + 1, pc, ls, st, D, L, h => by
    refine am_Wp_st hF (am_st_mono hF (fun _ _ _ h => h) (fun pc' ls' st' D' L' h' => ?_) h)
    split at h'
    · exact h'
    · exact am_Wp_bl hF hs k _ _ _ _ _ h'
theorem am_Wp_mono {C : Nat → Option am_I} (hF : ∀ a, am_mono (F a)) (hK : ∀ r D L, K r D L → K' r D L) (h : am_Wp lw n C F K pc ls st D L) : am_Wp lw n C F K' pc ls st D L := fun X hX => h X (fun _ _ _ _ _ h' => hX _ _ _ _ _ (am_st_mono hF hK (fun _ _ _ _ _ q => q) h'))
theorem am_bl_mono {C : Nat → Option am_I} (hF : ∀ a, am_mono (F a)) (hK : ∀ r D L, K r D L → K' r D L) (hX : ∀ pc ls st D L, X pc ls st D L → X' pc ls st D L) (hs : List Nat) : ∀ (k pc : Nat) (ls : am_V) (st : List Value) (D : am_D) (L : am_L), am_bl lw n C F K X hs k pc ls st D L → am_bl lw n C F K' X' hs k pc ls st D L
  | 0, _, _, _, _, _, h => hX _ _ _ _ _ h
  | k + 1, pc, ls, st, D, L, h => by
    refine am_st_mono hF hK (fun pc' ls' st' D' L' h' => ?_) h
    split at h'
    · exact hX _ _ _ _ _ h'
    · exact am_bl_mono hF hK hX hs k _ _ _ _ _ h'
/-- a method whose spec is its own code, up to k steps -/
def am_in (C : Nat → Option am_I) (F : Nat → am_Sp) (k : Nat) (lo : List Value → am_V) : am_Sp := fun as D L K => am_bl false 0 C F K (fun _ _ _ _ _ => False) [] k 0 (lo as) [] D L
theorem am_in_mono {C : Nat → Option am_I} (hF : ∀ a, am_mono (F a)) (k : Nat) (lo : List Value → am_V) : am_mono (am_in C F k lo) := fun _ _ _ _ _ hK h => am_bl_mono hF hK (fun _ _ _ _ _ h => h) [] _ _ _ _ _ _ h
theorem am_in_Wp {C : Nat → Option am_I} (hF : ∀ a, am_mono (F a)) {k : Nat} {lo : List Value → am_V} {as : List Value} (h : am_in C F k lo as D L K) : am_Wp false 0 C F K 0 (lo as) [] D L := am_Wp_bl hF [] k _ _ _ _ _ (am_bl_mono hF (fun _ _ _ h => h) (fun _ _ _ _ _ h => absurd h id) [] _ _ _ _ _ _ h)
end MO
end
section
/-! the abstract machine is the machine: the world, and every step -/
def am_c (ad : Nat → Nat) : Value → Value
  | .ref k => .ref (ad k)
  | v => v
def am_fs (ad : Nat → Nat) (f : Nat → Int32) (k : Nat) : List Value := (List.range (am_nf (am_tag k))).map (fun j => bif am_isr (am_tag k) j then Value.ref (ad (am_rho k j)) else .int (f j))
def am_e (ad : Nat → Nat) (cA : Nat → ClassId) (f : Nat → Int32) (L : am_L) (k : Nat) : va_E :=
  if am_tag k = 100 then .inl (cA 0, am_len k, .inl f)
  else if am_tag k = 101 then .inl (cA 1, am_len k, .inl f)
  else if am_tag k = 102 then .inl (cA 2, am_len k, .inr (.inl L))
  else if am_tag k = 103 then .inl (cA 3, am_len k, .inr (.inr (.inr (.inr (fun i => some (ad (am_rho k i)))))))
  else .inr (am_tag k, am_fs ad f k)
def am_w (ad : Nat → Nat) (cA : Nat → ClassId) (D : am_D) (L : am_L) : va_W := (List.range 79).map (fun k => (ad k, am_e ad cA (D k) L k))
def am_tys (cA : Nat → ClassId) : List (ClassId × FieldType) := [(cA 0, .int), (cA 1, .boolean), (cA 2, .long), (cA 3, .object "MilkHorse$Sheet")]
def am_A (ad : Nat → Nat) : Nat → Prop := fun q => ∃ k, k < 79 ∧ q = ad k
def am_inj (ad : Nat → Nat) : Prop := ∀ i j, i < 79 → j < 79 → ad i = ad j → i = j
def am_R (ad : Nat → Nat) (dC : Nat → ClassId) (dI : Nat → Nat → Nat) (cA : Nat → ClassId) (n : Nat) (xs : Nat → Int32) (D : am_D) (L : am_L) (H : Heap) : Prop := va_P (dC, dI) am_cl (am_w ad cA D L) H ∧ ∀ j, j < n → D 79 j = xs j
theorem am_w_get {ad : Nat → Nat} {cA : Nat → ClassId} {D : am_D} {L : am_L} {k : Nat} (h : k < 79) : (am_w ad cA D L)[k]? = some (ad k, am_e ad cA (D k) L k) := by
  simp [am_w, h]
theorem am_w_at {ad : Nat → Nat} {cA : Nat → ClassId} {D : am_D} {L : am_L} {k : Nat} {q : Nat × va_E} (h : (am_w ad cA D L)[k]? = some q) : k < 79 ∧ q = (ad k, am_e ad cA (D k) L k) := by
  have hk : k < 79 := by
    have := (List.getElem?_eq_some_iff.mp h).1
    simpa [am_w] using this
  rw [am_w_get hk] at h
  exact ⟨hk, (Option.some.inj h).symm⟩
theorem am_w_set {ad : Nat → Nat} {cA : Nat → ClassId} {D D' : am_D} {L L' : am_L} {k : Nat} {e : va_E} (he : e = am_e ad cA (D' k) L' k) (ho : ∀ q, q < 79 → q ≠ k → am_e ad cA (D q) L q = am_e ad cA (D' q) L' q) : (am_w ad cA D L).set k (ad k, e) = am_w ad cA D' L' := by
  apply List.ext_getElem?
  intro i
  by_cases hi : i < 79
  · rw [am_w_get hi, List.getElem?_set]
    by_cases hik : k = i
    · subst hik
      simp [am_w, hi, he]
    · rw [if_neg hik, am_w_get hi, ho i hi (fun q => hik q.symm)]
  · rw [List.getElem?_eq_none (by simp [am_w]; omega), List.getElem?_eq_none (by simp [am_w]; omega)]
theorem am_w_D {ad : Nat → Nat} {cA : Nat → ClassId} {D : am_D} {L : am_L} (hi : am_inj ad) : va_D (am_A ad) (am_w ad cA D L) := by
  refine ⟨fun i j p q h1 h2 h3 => ?_, fun k q h => ?_⟩
  · obtain ⟨a1, rfl⟩ := am_w_at h1
    obtain ⟨a2, rfl⟩ := am_w_at h2
    exact hi i j a1 a2 h3
  · obtain ⟨a1, rfl⟩ := am_w_at h
    exact ⟨k, a1, rfl⟩
theorem am_tag_lt {k : Nat} (h : am_tag k ≠ 999) : k < 79 := by
  rcases Nat.lt_or_ge k 79 with q | q
  · exact q
  · refine absurd ?_ h
    unfold am_tag
    rw [List.getD_eq_getElem?_getD, List.getElem?_eq_none (by simpa [am_tags] using q)]
    rfl
theorem am_up_ne {D : am_D} {k j q : Nat} {v : Int32} (h : q ≠ k) : am_up D k j v q = D q := by simp [am_up, h]
theorem am_up_eq {D : am_D} {k j : Nat} {v : Int32} : am_up D k j v k = upd (D k) j v := by simp [am_up]
theorem am_fs_set {ad : Nat → Nat} {f : Nat → Int32} {k j : Nat} {v : Int32} (h : am_isr (am_tag k) j = false) : (am_fs ad f k).set j (.int v) = am_fs ad (upd f j v) k := by
  apply List.ext_getElem?
  intro i
  by_cases hi : i < am_nf (am_tag k)
  · rw [List.getElem?_set]
    by_cases hij : j = i
    · subst hij
      simp [am_fs, hi, h, upd]
    · rw [if_neg hij]
      have : ¬ i = j := fun q => hij q.symm
      simp [am_fs, hi, upd, this]
  · rw [List.getElem?_eq_none (by simp [am_fs]; omega), List.getElem?_eq_none (by simp [am_fs]; omega)]
theorem am_R_put {ad : Nat → Nat} {dC : Nat → ClassId} {dI : Nat → Nat → Nat} {cA : Nat → ClassId} {n : Nat} {xs : Nat → Int32} {D : am_D} {L : am_L} {H : Heap} {k : Nat} {e : va_E} {j : Nat} {v : Int32} (hk : k < 79) (he : e = am_e ad cA (upd (D k) j v) L k) (hx : ∀ j, j < n → D 79 j = xs j) (h : va_P (dC, dI) am_cl ((am_w ad cA D L).set k (ad k, e)) H) : am_R ad dC dI cA n xs (am_up D k j v) L H := by
  refine ⟨?_, fun i hi => by rw [am_up_ne (by omega)]; exact hx i hi⟩
  rwa [am_w_set (D' := am_up D k j v) (L' := L) (by rw [am_up_eq]; exact he) (fun q _ hq => by rw [am_up_ne hq])] at h
theorem am_e_100 {ad : Nat → Nat} {cA : Nat → ClassId} {f : Nat → Int32} {L : am_L} {k : Nat} (h : am_tag k = 100) : am_e ad cA f L k = .inl (cA 0, am_len k, .inl f) := by simp [am_e, h]
theorem am_e_101 {ad : Nat → Nat} {cA : Nat → ClassId} {f : Nat → Int32} {L : am_L} {k : Nat} (h : am_tag k = 101) : am_e ad cA f L k = .inl (cA 1, am_len k, .inl f) := by simp [am_e, h]
theorem am_e_102 {ad : Nat → Nat} {cA : Nat → ClassId} {f : Nat → Int32} {L : am_L} {k : Nat} (h : am_tag k = 102) : am_e ad cA f L k = .inl (cA 2, am_len k, .inr (.inl L)) := by simp [am_e, h]
theorem am_e_103 {ad : Nat → Nat} {cA : Nat → ClassId} {f : Nat → Int32} {L : am_L} {k : Nat} (h : am_tag k = 103) : am_e ad cA f L k = .inl (cA 3, am_len k, .inr (.inr (.inr (.inr (fun i => some (ad (am_rho k i))))))) := by simp [am_e, h]
theorem am_e_ob {ad : Nat → Nat} {cA : Nat → ClassId} {f : Nat → Int32} {L : am_L} {k : Nat} (h : am_tag k < 100) : am_e ad cA f L k = .inr (am_tag k, am_fs ad f k) := by
  unfold am_e
  rw [if_neg (by omega), if_neg (by omega), if_neg (by omega), if_neg (by omega)]
/-- the locals -/
def am_lv (ad : Nat → Nat) (ls : am_V) (rls : Array Slot) (nL : Nat) : Prop := rls.size = nL ∧ lv_wf rls ∧ ∀ (i : Nat) (v : Value), am_gl ls i = some v → rls[i]? = some (.val (am_c ad v))
def am_ents (ad : Nat → Nat) (ls : am_V) (nL : Nat) : List (Nat × Value) := (List.range nL).filterMap (fun i => (am_gl ls i).map (fun v => (i, am_c ad v)))
theorem am_lv_has {ad : Nat → Nat} {ls : am_V} {rls : Array Slot} {nL : Nat} (h : am_lv ad ls rls nL) : lv_has rls nL (am_ents ad ls nL) := by
  refine ⟨h.1, h.2.1, fun q hq => ?_⟩
  obtain ⟨i, -, hi⟩ := List.mem_filterMap.mp hq
  cases hv : am_gl ls i with
  | none => rw [hv] at hi; cases hi
  | some v =>
    rw [hv] at hi
    cases hi
    exact h.2.2 i v hv
theorem am_ents_mem {ad : Nat → Nat} {ls : am_V} {rls : Array Slot} {nL i : Nat} {v : Value} (h : am_lv ad ls rls nL) (hi : am_gl ls i = some v) : (i, am_c ad v) ∈ am_ents ad ls nL := by
  refine List.mem_filterMap.mpr ⟨i, ?_, by rw [hi]; rfl⟩
  have := h.2.2 i v hi
  rw [List.mem_range, ← h.1]
  exact lv_lt this
theorem am_c_cat (ad : Nat → Nat) (v : Value) : (am_c ad v).category = v.category := by cases v <;> rfl
theorem am_lv1 {ad : Nat → Nat} {ls ls' : am_V} {rls rls' : Array Slot} {nL i : Nat} {v : Value} (h : am_lv ad ls rls nL) (hh : lv_has rls' nL ((i, am_c ad v) :: (am_ents ad ls nL).filter (fun q => !(q.1 == i) && !(q.1 + 1 == i && q.2.category == 2))))
    (h3 : ∀ (j : Nat) (v' : Value), am_gl ls' j = some v' → (j = i ∧ v' = v) ∨ (j ≠ i ∧ am_gl ls j = some v' ∧ ¬ (j + 1 = i ∧ v'.category = 2))) : am_lv ad ls' rls' nL := by
  refine ⟨hh.1, hh.2.1, fun j v' hj => ?_⟩
  rcases h3 j v' hj with ⟨rfl, rfl⟩ | ⟨q1, q2, q3⟩
  · exact hh.2.2 (j, _) List.mem_cons_self
  · refine hh.2.2 (j, am_c ad v') (List.mem_cons_of_mem _ (List.mem_filter.mpr ⟨am_ents_mem h q2, ?_⟩))
    simp only [am_c_cat]
    simp [q1]
    by_cases z : j + 1 = i
    · exact Or.inr (fun q => q3 ⟨z, q⟩)
    · exact Or.inl z
theorem am_lv2 {ad : Nat → Nat} {ls ls' : am_V} {rls rls' : Array Slot} {nL i : Nat} {v : Value} (h : am_lv ad ls rls nL) (hh : lv_has rls' nL ((i, am_c ad v) :: (am_ents ad ls nL).filter (fun q => !(q.1 == i) && (!(q.1 == i + 1) && !(q.1 + 1 == i && q.2.category == 2)))))
    (h3 : ∀ (j : Nat) (v' : Value), am_gl ls' j = some v' → (j = i ∧ v' = v) ∨ (j ≠ i ∧ j ≠ i + 1 ∧ am_gl ls j = some v' ∧ ¬ (j + 1 = i ∧ v'.category = 2))) : am_lv ad ls' rls' nL := by
  refine ⟨hh.1, hh.2.1, fun j v' hj => ?_⟩
  rcases h3 j v' hj with ⟨rfl, rfl⟩ | ⟨q1, q1', q2, q3⟩
  · exact hh.2.2 (j, _) List.mem_cons_self
  · refine hh.2.2 (j, am_c ad v') (List.mem_cons_of_mem _ (List.mem_filter.mpr ⟨am_ents_mem h q2, ?_⟩))
    simp only [am_c_cat]
    simp [q1, q1']
    by_cases z : j + 1 = i
    · exact Or.inr (fun q => q3 ⟨z, q⟩)
    · exact Or.inl z
/-- the static side: what the decoded instruction says, and the numbers beside it -/
def am_co (ret : Option FieldType) (nL : Nat) (fl : List (Nat × Nat × Nat × Bool × Bool)) (ki : List (Nat × Int32)) (kl : List (Nat × Int64)) (cs : List (Instr × Nat × Nat)) (pc : Nat) (ins : Instr) (nx a b d : Nat) (v : Int32) (w : Int64) : Bool := match ins with
  | .iconst i => decide (nx = pc + 1) && decide (Int32.ofInt i = v)
  | .bipush i => decide (nx = pc + 2) && decide ((Int8.ofInt i).toInt32 = v)
  | .sipush i => decide (nx = pc + 3) && decide ((Int16.ofInt i).toInt32 = v)
  | .ldc i => decide (nx = pc + 2) && decide ((i, v) ∈ ki)
  | .ldc_w i => decide (nx = pc + 3) && decide ((i, v) ∈ ki)
  | .lconst i => decide (nx = pc + 1) && decide (Int64.ofNat (i : Nat) = w)
  | .ldc2_w i => decide (nx = pc + 3) && decide ((i, w) ∈ kl)
  | .iload i => decide (nx = pc + 2) && decide (i = a)
  | .iload_n i => decide (nx = pc + 1) && decide ((i : Nat) = a)
  | .lload i => decide (nx = pc + 2) && decide (i = a)
  | .lload_n i => decide (nx = pc + 1) && decide ((i : Nat) = a)
  | .aload i => decide (nx = pc + 2) && decide (i = a)
  | .aload_n i => decide (nx = pc + 1) && decide ((i : Nat) = a)
  | .istore i => decide (nx = pc + 2) && (decide (i = a) && decide (a < nL))
  | .istore_n i => decide (nx = pc + 1) && (decide ((i : Nat) = a) && decide (a < nL))
  | .lstore i => decide (nx = pc + 2) && (decide (i = a) && decide (a + 1 < nL))
  | .lstore_n i => decide (nx = pc + 1) && (decide ((i : Nat) = a) && decide (a + 1 < nL))
  | .astore i => decide (nx = pc + 2) && (decide (i = a) && decide (a < nL))
  | .astore_n i => decide (nx = pc + 1) && (decide ((i : Nat) = a) && decide (a < nL))
  | .iinc i k => decide (nx = pc + 3) && (decide (i = a) && (decide (Int32.ofInt k = v) && decide (a < nL)))
  | .goto o => decide ((pc : Int) + o = (a : Int)) && decide (nx = pc + 3)
  | .if_icmp _ o => decide ((pc : Int) + o = (a : Int)) && decide (nx = pc + 3)
  | .ifCond _ o => decide ((pc : Int) + o = (a : Int)) && decide (nx = pc + 3)
  | .ifnull o => decide ((pc : Int) + o = (a : Int)) && decide (nx = pc + 3)
  | .ifnonnull o => decide ((pc : Int) + o = (a : Int)) && decide (nx = pc + 3)
  | .tableswitch df lo hi offs => decide ((pc : Int) + df = (a : Int)) && (decide (hi - lo + 1 = offs.size) && offs.all (fun o => decide (0 ≤ (pc : Int) + o)))
  | .getfield i => decide (nx = pc + 3) && (fl.any (fun q => decide (q.1 = i) && (decide (q.2.1 = b) && decide (q.2.2.1 = a))) && (decide (b < 12) && decide (d = (if am_isr b a = true then 1 else 0))))
  | .putfield i => decide (nx = pc + 3) && (fl.any (fun q => decide (q.1 = i) && (decide (q.2.1 = b) && (decide (q.2.2.1 = a) && q.2.2.2.2))) && (decide (b < 12) && decide (d = (if am_isz b a = true then 1 else 0))))
  | .invokevirtual i => decide (nx = pc + 3) && (decide (cs[a]? = some (.invokevirtual i, b, d)) && decide (d < 12))
  | .invokestatic i => decide (nx = pc + 3) && decide (cs[a]? = some (.invokestatic i, b, d))
  | .ireturn => decide (nx = pc + 1) && ((decide (b = 0) && decide (ret = some .int)) || (decide (b = 1) && decide (ret = some .boolean)))
  | .lreturn => decide (nx = pc + 1) && decide (ret = some .long)
  | .areturn => decide (nx = pc + 1) && (match ret with
    | some (.object _) => true
    | _ => false)
  | .return_ => decide (nx = pc + 1) && decide (ret = none)
  | _ => decide (nx = pc + 1)
def am_ck (cc : ByteArray) (ret : Option FieldType) (nL : Nat) (fl : List (Nat × Nat × Nat × Bool × Bool)) (ki : List (Nat × Int32)) (kl : List (Nat × Int64)) (cs : List (Instr × Nat × Nat)) (pc : Nat) (q : Option am_I) : Bool := match q with
  | none => true
  | some (ins, nx, a, b, d, v, w) => decide (decode cc pc = .ok (ins, nx - pc)) && am_co ret nL fl ki kl cs pc ins nx a b d v w
/-- a class's own links: of fields (entry, class, place, of a nest mate, also put), of numbers -/
def am_flok (own : String) (q : Nat × Nat × Nat × Bool × Bool) : Prop := ∃ r : vw_C, am_cl[q.2.1]? = some r ∧ r.2.2 = am_nf q.2.1 ∧ q.2.2.1 < r.2.2 ∧ (r.2.1 q.2.2.1).1 = r.1 ∧
  ((q.2.2.2.1 = false ∧ Cond.fieldLink own q.1 r.1 (r.2.1 q.2.2.1).2.1 (r.2.1 q.2.2.1).2.2.1 ∈ am_tbl) ∨ (q.2.2.2.1 = true ∧ Cond.fieldLinkNest own q.1 r.1 (r.2.1 q.2.2.1).2.1 (r.2.1 q.2.2.1).2.2.1 "MilkHorse" ∈ am_nest)) ∧
  (q.2.2.2.2 = true → (r.2.1 q.2.2.1).2.2.2 = false ∧ am_isr q.2.1 q.2.2.1 = false ∧ parseFieldDescriptor (r.2.1 q.2.2.1).2.2.1 = some (if am_isz q.2.1 q.2.2.1 = true then .boolean else .int))
theorem am_cls {c : Nat} {r : vw_C} (h : am_cl[c]? = some r) : (∀ w ∈ u_ws r.1 r.2.1 r.2.2, w ∈ am_tbl) ∧ (∃ ty0 : Nat → FieldType, ∀ k, k < r.2.2 → parseFieldDescriptor (r.2.1 k).2.2.1 = some (ty0 k)) ∧ ∀ a, a < r.2.2 → ∀ b, b < r.2.2 → a ≠ b → (r.2.1 a).2.1 ≠ (r.2.1 b).2.1 := by
  match c, h with
  | 0, h => cases h; exact ⟨ig_0, ⟨t_0, t_0_ok⟩, n_0⟩
  | 1, h => cases h; exact ⟨ig_1, ⟨t_1, t_1_ok⟩, n_1⟩
  | 2, h => cases h; exact ⟨ig_2, ⟨t_2, t_2_ok⟩, n_2⟩
  | 3, h => cases h; exact ⟨ig_3, ⟨t_3, t_3_ok⟩, n_3⟩
  | 4, h => cases h; exact ⟨ig_4, ⟨t_4, t_4_ok⟩, n_4⟩
  | 5, h => cases h; exact ⟨ig_5, ⟨t_5, t_5_ok⟩, n_5⟩
  | 6, h => cases h; exact ⟨ig_6, ⟨t_6, t_6_ok⟩, n_6⟩
  | 7, h => cases h; exact ⟨ig_7, ⟨t_7, t_7_ok⟩, n_7⟩
  | 8, h => cases h; exact ⟨ig_8, ⟨t_8, t_8_ok⟩, n_8⟩
  | 9, h => cases h; exact ⟨ig_9, ⟨t_9, t_9_ok⟩, n_9⟩
  | 10, h => cases h; exact ⟨ig_10, ⟨t_10, t_10_ok⟩, n_10⟩
  | 11, h => cases h; exact ⟨ig_11, ⟨t_11, t_11_ok⟩, n_11⟩
  | c + 12, h => simp [am_cl] at h
def am_Cx (p : Program) (s : State) (m : MethodId) (args : Array Value) (c : Code) (own : String) (cc : ByteArray) (nL : Nat) (dC : Nat → ClassId) (dI : Nat → Nat → Nat) (cA : Nat → ClassId) : Prop :=
  p.tables.exec = Jvm.exec ∧ c.code = cc ∧ c.maxLocals = nL ∧ s.vm.findClass own = some m.cls ∧ (∀ w ∈ am_tbl, w.before args s = true) ∧ va_K (dC, dI) am_cl (am_tys cA) s ∧ am_N s
def am_Sd (p : Program) (l : Launch) (e : Env) (R : Room) (s : State) (m : MethodId) (args : Array Value) (below : List Frame) (meth : Method) (c : Code) (cells slots : Nat) (Q : State → Prop) (nL : Nat) (ad : Nat → Nat) (dC : Nat → ClassId) (dI : Nat → Nat → Nat) (cA : Nat → ClassId) (n : Nat) (xs : Nat → Int32) : am_X := fun pc ls st D L =>
  ∀ (rls : Array Slot) (H : Heap) (locs : List Loc), am_lv ad ls rls nL → am_R ad dC dI cA n xs D L H → va_S (am_A ad) s.heap H locs → W p l e R s m args below meth c H locs cells slots Q (F0 m pc rls (st.map (am_c ad)))
end
section
/-! every step of the abstract machine is one of the machine -/
theorem am_102 {k : Nat} (h : am_tag k = 102) : k = 38 := by
  have hk : k < 79 := am_tag_lt (by omega)
  have key : ∀ k, k < 79 → am_tag k = 102 → k = 38 := by decide +kernel
  exact key k hk h
theorem am_e_L {ad : Nat → Nat} {cA : Nat → ClassId} {f : Nat → Int32} {L L' : am_L} {k : Nat} (h : am_tag k ≠ 102) : am_e ad cA f L k = am_e ad cA f L' k := by
  simp [am_e, h]
section SO
variable {p : Program} {l : Launch} {e : Env} {R : Room} {s : State} {m : MethodId} {args : Array Value} {below : List Frame} {meth : Method} {c : Code} {cells slots : Nat} {Q : State → Prop} {nL : Nat} {ad : Nat → Nat} {dC : Nat → ClassId} {dI : Nat → Nat → Nat} {cA : Nat → ClassId} {n : Nat} {xs : Nat → Int32}
variable {lw : Bool} {F : Nat → am_Sp} {K : am_K} {pc : Nat} {ins : Instr} {nx a b d : Nat} {v : Int32} {w : Int64} {ls : am_V} {st : List Value} {D : am_D} {L : am_L}
variable {own : String} {cc : ByteArray} {ret : Option FieldType} {fl : List (Nat × Nat × Nat × Bool × Bool)} {ki : List (Nat × Int32)} {kl : List (Nat × Int64)} {cs : List (Instr × Nat × Nat)}
/-- what a call must be -/
def am_HC (p : Program) (l : Launch) (e : Env) (R : Room) (s : State) (m : MethodId) (args : Array Value) (below : List Frame) (meth : Method) (c : Code) (cells slots : Nat) (Q : State → Prop) (cc : ByteArray) (nL : Nat) (ad : Nat → Nat) (dC : Nat → ClassId) (dI : Nat → Nat → Nat) (cA : Nat → ClassId) (n : Nat) (xs : Nat → Int32) (ins : Instr) (b d : Nat) (S : am_Sp) : Prop :=
  ∀ (as : List Value) (D : am_D) (L : am_L) (K' : am_K) (H : Heap) (locs : List Loc) (pc : Nat) (rls : Array Slot) (rest : List Value), S as D L K' → as.length = b → am_w8 rest ≤ 8 → ((∃ i, ins = .invokevirtual i) → ∃ k as', as = .ref k :: as' ∧ am_tag k = d) → am_R ad dC dI cA n xs D L H → va_S (am_A ad) s.heap H locs → rls.size = nL → decode cc pc = .ok (ins, 3) →
    (∀ (r : Option Value) (D' : am_D) (L' : am_L) (H' : Heap) (locs' : List Loc), K' r D' L' → am_R ad dC dI cA n xs D' L' H' → va_S (am_A ad) s.heap H' locs' → W p l e R s m args below meth c H' locs' cells slots Q (F0 m (pc + 3) rls ((r.map (am_c ad)).toList ++ rest.map (am_c ad)))) →
    W p l e R s m args below meth c H locs cells slots Q (F0 m pc rls ((as.map (am_c ad)).reverse ++ rest.map (am_c ad)))
/-- what an end must be -/
def am_HR (p : Program) (l : Launch) (e : Env) (R : Room) (s : State) (m : MethodId) (args : Array Value) (below : List Frame) (meth : Method) (c : Code) (cells slots : Nat) (Q : State → Prop) (cc : ByteArray) (ad : Nat → Nat) (dC : Nat → ClassId) (dI : Nat → Nat → Nat) (cA : Nat → ClassId) (n : Nat) (xs : Nat → Int32) (ret : Option FieldType) (K : am_K) : Prop :=
  ∀ (r : Option Value) (D : am_D) (L : am_L) (H : Heap) (locs : List Loc) (pc : Nat) (rls : Array Slot), K r D L → am_R ad dC dI cA n xs D L H → va_S (am_A ad) s.heap H locs →
    ((decode cc pc = .ok (.ireturn, 1) ∧ ∃ x, r = some (.int x) ∧ (ret = some .int ∨ (ret = some .boolean ∧ (x = 0 ∨ x = 1)))) ∨ (decode cc pc = .ok (.lreturn, 1) ∧ ret = some .long ∧ ∃ x, r = some (.long x)) ∨ (decode cc pc = .ok (.areturn, 1) ∧ (∃ o, ret = some (.object o)) ∧ (r = some .null ∨ ∃ k, r = some (.ref k))) ∨ (decode cc pc = .ok (.return_, 1) ∧ ret = none ∧ r = none)) →
    W p l e R s m args below meth c H locs cells slots Q (F0 m pc rls ((r.map (am_c ad)).toList))
theorem am_okE (hC : ∀ (a : Nat) (ins : Instr) (b d : Nat), cs[a]? = some (ins, b, d) → am_HC p l e R s m args below meth c cells slots Q cc nL ad dC dI cA n xs ins b d (F a)) (hRt : am_HR p l e R s m args below meth c cells slots Q cc ad dC dI cA n xs ret K)
    (hdec : decode cc pc = .ok (ins, nx - pc)) (hco : am_co ret nL fl ki kl cs pc ins nx a b d v w = true) (h : am_sE F K ins nx a b d ls st D L (am_Sd p l e R s m args below meth c cells slots Q nL ad dC dI cA n xs)) : am_Sd p l e R s m args below meth c cells slots Q nL ad dC dI cA n xs pc ls st D L := by
  intro rls H locs hl hR hS
  unfold am_sE at h
  split at h
  · simp only [am_co, Bool.and_eq_true, decide_eq_true_eq] at hco
    obtain ⟨rfl, hcs, hd⟩ := hco
    rw [Nat.add_sub_cancel_left] at hdec
    obtain ⟨as, r, h1, h2, h3, -⟩ := am_pop_ex _ _ _ _ h
    rw [List.append_nil] at h1
    split at h1
    · rename_i k as'
      split at h1
      · rename_i e1
        split at h1
        · rename_i e2
          subst h2
          rw [List.map_append, List.map_reverse]
          refine hC a _ _ _ hcs _ D L _ H locs pc rls r h1 h3 (Nat.le_of_ble_eq_true e2) (fun _ => ⟨k, as', rfl, Nat.eq_of_beq_eq_true e1⟩) hR hS hl.1 hdec (fun q D' L' H' locs' hq hR' hS' => ?_)
          cases q with
          | none => exact hq rls H' locs' hl hR' hS'
          | some z => exact hq rls H' locs' hl hR' hS'
        · exact absurd h1 id
      · exact absurd h1 id
    · exact absurd h1 id
  · simp only [am_co, Bool.and_eq_true, decide_eq_true_eq] at hco
    obtain ⟨rfl, hcs⟩ := hco
    rw [Nat.add_sub_cancel_left] at hdec
    obtain ⟨as, r, h1, h2, h3, -⟩ := am_pop_ex _ _ _ _ h
    rw [List.append_nil] at h1
    split at h1
    · rename_i e2
      subst h2
      rw [List.map_append, List.map_reverse]
      refine hC a _ _ _ hcs _ D L _ H locs pc rls r h1 h3 (Nat.le_of_ble_eq_true e2) (fun q => by obtain ⟨i, hi⟩ := q; cases hi) hR hS hl.1 hdec (fun q D' L' H' locs' hq hR' hS' => ?_)
      cases q with
      | none => exact hq rls H' locs' hl hR' hS'
      | some z => exact hq rls H' locs' hl hR' hS'
    · exact absurd h1 id
  · simp only [am_co, Bool.and_eq_true, Bool.or_eq_true, decide_eq_true_eq] at hco
    obtain ⟨rfl, hco⟩ := hco
    rw [Nat.add_sub_cancel_left] at hdec
    split at h
    · rename_i x
      rcases hco with ⟨rfl, h2⟩ | ⟨rfl, h2⟩
      · exact hRt (some (.int x)) D L H locs pc rls h hR hS (Or.inl ⟨hdec, x, rfl, Or.inl h2⟩)
      · exact hRt (some (.int x)) D L H locs pc rls h.2 hR hS (Or.inl ⟨hdec, x, rfl, Or.inr ⟨h2, h.1⟩⟩)
    · exact absurd h id
  · simp only [am_co, Bool.and_eq_true, decide_eq_true_eq] at hco
    obtain ⟨rfl, hco⟩ := hco
    rw [Nat.add_sub_cancel_left] at hdec
    split at h
    · rename_i x
      exact hRt (some (.long x)) D L H locs pc rls h hR hS (Or.inr (Or.inl ⟨hdec, hco, x, rfl⟩))
    · exact absurd h id
  · simp only [am_co, Bool.and_eq_true, decide_eq_true_eq] at hco
    obtain ⟨rfl, hco⟩ := hco
    rw [Nat.add_sub_cancel_left] at hdec
    split at hco
    · rename_i o
      split at h
      · rename_i x
        exact hRt (some (.ref x)) D L H locs pc rls h hR hS (Or.inr (Or.inr (Or.inl ⟨hdec, ⟨o, rfl⟩, Or.inr ⟨x, rfl⟩⟩)))
      · exact hRt (some .null) D L H locs pc rls h hR hS (Or.inr (Or.inr (Or.inl ⟨hdec, ⟨o, rfl⟩, Or.inl rfl⟩)))
      · exact absurd h id
    · cases hco
  · simp only [am_co, Bool.and_eq_true, decide_eq_true_eq] at hco
    obtain ⟨rfl, hco⟩ := hco
    rw [Nat.add_sub_cancel_left] at hdec
    split at h
    · exact hRt none D L H locs pc rls h hR hS (Or.inr (Or.inr (Or.inr ⟨hdec, hco, rfl⟩)))
    · exact absurd h id
  · exact absurd h id
theorem am_any {fl : List (Nat × Nat × Nat × Bool × Bool)} {f : Nat × Nat × Nat × Bool × Bool → Bool} (h : fl.any f = true) : ∃ q ∈ fl, f q = true := List.any_eq_true.mp h
theorem am_nz {x : Int32} (h : x = 0 ∨ x = 1) : narrow .boolean (.int x) = .int x ∧ fits .boolean (.int x) = true ∧ vp_nar .boolean x = x := by
  rcases h with rfl | rfl <;> refine ⟨by decide +kernel, by decide +kernel, by decide +kernel⟩
theorem am_okD (cx : am_Cx p s m args c own cc nL dC dI cA) (hi : am_inj ad) (hf : ∀ q ∈ fl, am_flok own q) (hX : lw = true → va_X (ad 79) n xs s s.heap ∧ ad 79 < s.heap.size ∧ ¬ am_A ad (ad 79))
    (hC : ∀ (a : Nat) (ins : Instr) (b d : Nat), cs[a]? = some (ins, b, d) → am_HC p l e R s m args below meth c cells slots Q cc nL ad dC dI cA n xs ins b d (F a)) (hRt : am_HR p l e R s m args below meth c cells slots Q cc ad dC dI cA n xs ret K)
    (hdec : decode cc pc = .ok (ins, nx - pc)) (hco : am_co ret nL fl ki kl cs pc ins nx a b d v w = true) (h : am_sD lw n F K ins nx a b d v ls st D L (am_Sd p l e R s m args below meth c cells slots Q nL ad dC dI cA n xs)) : am_Sd p l e R s m args below meth c cells slots Q nL ad dC dI cA n xs pc ls st D L := by
  unfold am_sD at h
  split at h
  · -- getfield
    intro rls H locs hl hR hS
    obtain ⟨hx, hb, hml, hown, hts, hK, hN⟩ := cx
    simp only [am_co, Bool.and_eq_true, decide_eq_true_eq] at hco
    obtain ⟨rfl, hfl, hb12, hd⟩ := hco
    rw [Nat.add_sub_cancel_left] at hdec
    obtain ⟨q, hq, hq2⟩ := am_any hfl
    simp only [Bool.and_eq_true, decide_eq_true_eq] at hq2
    obtain ⟨rfl, rfl, rfl⟩ := hq2
    obtain ⟨r, hr, hrn, hrj, hr1, hrl, -⟩ := hf q hq
    obtain ⟨hin, -, -⟩ := am_cls hr
    split at h
    · rename_i k rest
      split at h
      · rename_i e1
        have et : am_tag k = q.2.1 := Nat.eq_of_beq_eq_true e1
        have hk : k < 79 := am_tag_lt (by omega)
        have he : (am_w ad cA D L)[k]? = some (ad k, .inr (q.2.1, am_fs ad (D k) k)) := by rw [am_w_get hk, am_e_ob (by omega), et]
        have hv : (am_fs ad (D k) k)[q.2.2.1]? = some (bif am_isr q.2.1 q.2.2.1 then Value.ref (ad (am_rho k q.2.2.1)) else .int (D k q.2.2.1)) := by
          rw [← et]
          have : q.2.2.1 < am_nf (am_tag k) := by rw [et, ← hrn]; exact hrj
          simp [am_fs, this]
        have key : W p l e R s m args below meth c H locs cells slots Q (F0 m (pc + 3) rls ((bif am_isr q.2.1 q.2.2.1 then Value.ref (ad (am_rho k q.2.2.1)) else .int (D k q.2.2.1)) :: rest.map (am_c ad))) := by
          cases hz : am_isr q.2.1 q.2.2.1 with
          | false =>
            rw [hz] at hd
            subst hd
            exact h rls H locs hl hR hS
          | true =>
            rw [hz] at hd
            subst hd
            obtain ⟨row, g1, g2⟩ := am_nth_ex _ _ _ h
            obtain ⟨z, g3, g4⟩ := am_nth_ex _ _ _ g2
            have ez : am_rho k q.2.2.1 = z := by
              unfold am_rho
              rw [List.getD_eq_getElem?_getD, List.getD_eq_getElem?_getD, g1, Option.getD_some, g3, Option.getD_some]
            have := g4 rls H locs hl hR hS
            rw [← ez] at this
            exact this
        rcases hrl with ⟨-, hw⟩ | ⟨-, hw⟩
        · exact va_get (D := (dC, dI)) (C := r.1) (T := r.2.1) (N := r.2.2) hx hb hts hin hown hK hR.1 k he hr q.2.2.1 hrj (hts _ hw) (fun _ z => by rw [hr1] at z; exact z) hv hdec key
        · exact va_getN (D := (dC, dI)) (C := r.1) (T := r.2.1) (N := r.2.2) hx hb hts hin hown hK hR.1 k he hr q.2.2.1 hrj (va_Nw.use rfl (hN _ hw)) (fun _ z => by rw [hr1] at z; exact z) hv hdec key
      · exact absurd h id
    · exact absurd h id
  · -- putfield
    intro rls H locs hl hR hS
    obtain ⟨hx, hb, hml, hown, hts, hK, hN⟩ := cx
    simp only [am_co, Bool.and_eq_true, decide_eq_true_eq] at hco
    obtain ⟨rfl, hfl, hb12, hd⟩ := hco
    rw [Nat.add_sub_cancel_left] at hdec
    obtain ⟨q, hq, hq2⟩ := am_any hfl
    simp only [Bool.and_eq_true, decide_eq_true_eq] at hq2
    obtain ⟨rfl, rfl, rfl, hput⟩ := hq2
    obtain ⟨r, hr, hrn, hrj, hr1, hrl, hp⟩ := hf q hq
    obtain ⟨hfin, hisr, hty⟩ := hp hput
    obtain ⟨hin, ⟨ty0, hty0⟩, hnm⟩ := am_cls hr
    split at h
    · rename_i x k rest
      split at h
      · rename_i e1
        have et : am_tag k = q.2.1 := Nat.eq_of_beq_eq_true e1
        have hk : k < 79 := am_tag_lt (by omega)
        have he : (am_w ad cA D L)[k]? = some (ad k, .inr (q.2.1, am_fs ad (D k) k)) := by rw [am_w_get hk, am_e_ob (by omega), et]
        have hlen : q.2.2.1 < (am_fs ad (D k) k).length := by
          have : q.2.2.1 < am_nf (am_tag k) := by rw [et, ← hrn]; exact hrj
          simpa [am_fs] using this
        have h2 : (narrow (if am_isz q.2.1 q.2.2.1 = true then FieldType.boolean else .int) (.int x) = .int x ∧ fits (if am_isz q.2.1 q.2.2.1 = true then FieldType.boolean else .int) (.int x) = true) ∧ am_Sd p l e R s m args below meth c cells slots Q nL ad dC dI cA n xs (pc + 3) ls rest (am_up D k q.2.2.1 x) L := by
          cases hz : am_isz q.2.1 q.2.2.1 with
          | false =>
            rw [hz] at hd
            subst hd
            exact ⟨⟨rfl, rfl⟩, h⟩
          | true =>
            rw [hz] at hd
            subst hd
            exact ⟨⟨(am_nz h.1).1, (am_nz h.1).2.1⟩, h.2⟩
        have key : ∀ (H1 : Heap) (locs1 : List Loc), va_P (dC, dI) am_cl ((am_w ad cA D L).set k (ad k, .inr (q.2.1, (am_fs ad (D k) k).set q.2.2.1 (.int x)))) H1 → va_D (am_A ad) ((am_w ad cA D L).set k (ad k, .inr (q.2.1, (am_fs ad (D k) k).set q.2.2.1 (.int x)))) → va_S (am_A ad) s.heap H1 locs1 → W p l e R s m args below meth c H1 locs1 cells slots Q (F0 m (pc + 3) rls (rest.map (am_c ad))) := by
          intro H1 locs1 hP1 _ hS1
          refine h2.2 rls H1 locs1 hl (am_R_put hk ?_ hR.2 hP1) hS1
          rw [am_fs_set (by rw [et]; exact hisr), am_e_ob (by omega), et]
        rcases hrl with ⟨-, hw⟩ | ⟨-, hw⟩
        · exact va_put (D := (dC, dI)) (C := r.1) (T := r.2.1) (N := r.2.2) hx hb hts hin ty0 hty0 hnm hown hK hR.1 (am_w_D hi) hS k he hr q.2.2.1 hrj (hts _ hw) (fun _ z => by rw [hr1] at z; exact z) hfin hty h2.1.1 h2.1.2 hlen hdec key
        · exact va_putN (D := (dC, dI)) (C := r.1) (T := r.2.1) (N := r.2.2) hx hb hts hin ty0 hty0 hnm hown hK hR.1 (am_w_D hi) hS k he hr q.2.2.1 hrj (va_Nw.use rfl (hN _ hw)) (fun _ z => by rw [hr1] at z; exact z) hfin hty h2.1.1 h2.1.2 hlen hdec key
      · exact absurd h id
    · exact absurd h id
  · -- iaload
    intro rls H locs hl hR hS
    obtain ⟨hx, hb, hml, hown, hts, hK, hN⟩ := cx
    simp only [am_co, decide_eq_true_eq] at hco
    subst hco
    rw [Nat.add_sub_cancel_left] at hdec
    split at h
    · rename_i i k rest
      split at h
      · rename_i e1
        have et : am_tag k = 100 := Nat.eq_of_beq_eq_true e1
        have hk : k < 79 := am_tag_lt (by omega)
        exact va_iald hx hb hK hR.1 k 0 (by rw [am_w_get hk, am_e_100 et]) rfl h.1 hdec (h.2 rls H locs hl hR hS)
      · split at h
        · split at h
          · rename_i e2
            have ek : k = 79 := Nat.eq_of_beq_eq_true e2
            subst ek
            obtain ⟨x1, x2, x3⟩ := hX rfl
            refine va_sld hx hb x1 x2 x3 hS h.1 hdec ?_
            have hlt : i.toNatClampNeg < n := Nat.not_le.mp fun q => h.1 (Or.inr q)
            rw [← hR.2 _ hlt]
            exact h.2 rls H locs hl hR hS
          · exact absurd h id
        · exact absurd h id
    · exact absurd h id
  · -- iastore
    intro rls H locs hl hR hS
    obtain ⟨hx, hb, hml, hown, hts, hK, hN⟩ := cx
    simp only [am_co, decide_eq_true_eq] at hco
    subst hco
    rw [Nat.add_sub_cancel_left] at hdec
    split at h
    · rename_i x i k rest
      split at h
      · rename_i e1
        have et : am_tag k = 100 := Nat.eq_of_beq_eq_true e1
        have hk : k < 79 := am_tag_lt (by omega)
        exact va_iast hx hb hK hR.1 (am_w_D hi) hS k 0 (by rw [am_w_get hk, am_e_100 et]) rfl h.1 hdec (fun H1 locs1 hP1 _ hS1 => h.2 rls H1 locs1 hl (am_R_put hk (by rw [am_e_100 et]) hR.2 hP1) hS1)
      · exact absurd h id
    · exact absurd h id
  · -- baload
    intro rls H locs hl hR hS
    obtain ⟨hx, hb, hml, hown, hts, hK, hN⟩ := cx
    simp only [am_co, decide_eq_true_eq] at hco
    subst hco
    rw [Nat.add_sub_cancel_left] at hdec
    split at h
    · rename_i i k rest
      split at h
      · rename_i e1
        have et : am_tag k = 101 := Nat.eq_of_beq_eq_true e1
        have hk : k < 79 := am_tag_lt (by omega)
        exact va_zald hx hb hK hR.1 k 1 (by rw [am_w_get hk, am_e_101 et]) rfl h.1 hdec (h.2 rls H locs hl hR hS)
      · exact absurd h id
    · exact absurd h id
  · -- bastore
    intro rls H locs hl hR hS
    obtain ⟨hx, hb, hml, hown, hts, hK, hN⟩ := cx
    simp only [am_co, decide_eq_true_eq] at hco
    subst hco
    rw [Nat.add_sub_cancel_left] at hdec
    split at h
    · rename_i x i k rest
      split at h
      · rename_i e1
        have et : am_tag k = 101 := Nat.eq_of_beq_eq_true e1
        have hk : k < 79 := am_tag_lt (by omega)
        exact va_zast hx hb hK hR.1 (am_w_D hi) hS k 1 (by rw [am_w_get hk, am_e_101 et]) rfl h.2.1 hdec (fun H1 locs1 hP1 _ hS1 => h.2.2 rls H1 locs1 hl (am_R_put hk (by rw [am_e_101 et, (am_nz h.1).2.2]) hR.2 hP1) hS1)
      · exact absurd h id
    · exact absurd h id
  · -- laload
    intro rls H locs hl hR hS
    obtain ⟨hx, hb, hml, hown, hts, hK, hN⟩ := cx
    simp only [am_co, decide_eq_true_eq] at hco
    subst hco
    rw [Nat.add_sub_cancel_left] at hdec
    split at h
    · rename_i i k rest
      split at h
      · rename_i e1
        have et : am_tag k = 102 := Nat.eq_of_beq_eq_true e1
        have hk : k < 79 := am_tag_lt (by omega)
        exact va_lald hx hb hK hR.1 k 2 (by rw [am_w_get hk, am_e_102 et]) rfl h.1 hdec (h.2 rls H locs hl hR hS)
      · exact absurd h id
    · exact absurd h id
  · -- lastore
    intro rls H locs hl hR hS
    obtain ⟨hx, hb, hml, hown, hts, hK, hN⟩ := cx
    simp only [am_co, decide_eq_true_eq] at hco
    subst hco
    rw [Nat.add_sub_cancel_left] at hdec
    split at h
    · rename_i x i k rest
      split at h
      · rename_i e1
        have et : am_tag k = 102 := Nat.eq_of_beq_eq_true e1
        have hk : k < 79 := am_tag_lt (by omega)
        have hk2 : k = 38 := am_102 et
        refine va_last hx hb hK hR.1 (am_w_D hi) hS k 2 (by rw [am_w_get hk, am_e_102 et]) rfl h.1 hdec (fun H1 locs1 hP1 _ hS1 => h.2 rls H1 locs1 hl ⟨?_, hR.2⟩ hS1)
        rwa [am_w_set (D' := D) (L' := vp_updL L i.toNatClampNeg x) (by rw [am_e_102 et]) (fun q _ hq => am_e_L (fun hz => hq (by rw [hk2]; exact am_102 hz)))] at hP1
      · exact absurd h id
    · exact absurd h id
  · -- aaload
    intro rls H locs hl hR hS
    obtain ⟨hx, hb, hml, hown, hts, hK, hN⟩ := cx
    simp only [am_co, decide_eq_true_eq] at hco
    subst hco
    rw [Nat.add_sub_cancel_left] at hdec
    split at h
    · rename_i i k rest
      split at h
      · rename_i e1
        have et : am_tag k = 103 := Nat.eq_of_beq_eq_true e1
        have hk : k < 79 := am_tag_lt (by omega)
        exact va_aldq (f := fun i => some (ad (am_rho k i))) hx hb hK hR.1 k 3 (by rw [am_w_get hk, am_e_103 et]) rfl h.1 hdec (h.2 rls H locs hl hR hS)
      · exact absurd h id
    · exact absurd h id
  · -- arraylength
    intro rls H locs hl hR hS
    obtain ⟨hx, hb, hml, hown, hts, hK, hN⟩ := cx
    simp only [am_co, decide_eq_true_eq] at hco
    subst hco
    rw [Nat.add_sub_cancel_left] at hdec
    split at h
    · rename_i k rest
      split at h
      · rename_i e1
        have e1 := Nat.le_of_ble_eq_true e1
        split at h
        · rename_i e2
          have e2 := Nat.le_of_ble_eq_true e2
          have hk : k < 79 := am_tag_lt (by omega)
          have h4 : am_tag k = 100 ∨ am_tag k = 101 ∨ am_tag k = 102 ∨ am_tag k = 103 := by omega
          rcases h4 with et | et | et | et
          · exact va_alen (x := (am_len k, .inl (D k))) hx hb hK hR.1 k 0 (by rw [am_w_get hk, am_e_100 et]) rfl rfl hdec (h rls H locs hl hR hS)
          · exact va_alen (x := (am_len k, .inl (D k))) hx hb hK hR.1 k 1 (by rw [am_w_get hk, am_e_101 et]) rfl rfl hdec (h rls H locs hl hR hS)
          · exact va_alen (x := (am_len k, .inr (.inl L))) hx hb hK hR.1 k 2 (by rw [am_w_get hk, am_e_102 et]) rfl rfl hdec (h rls H locs hl hR hS)
          · exact va_alen (x := (am_len k, .inr (.inr (.inr (.inr (fun i => some (ad (am_rho k i)))))))) hx hb hK hR.1 k 3 (by rw [am_w_get hk, am_e_103 et]) rfl rfl hdec (h rls H locs hl hR hS)
        · split at h
          · split at h
            · rename_i e3
              have ek : k = 79 := Nat.eq_of_beq_eq_true e3
              subst ek
              obtain ⟨x1, x2, x3⟩ := hX rfl
              exact va_slen hx hb x1 x2 x3 hS hdec (h rls H locs hl hR hS)
            · exact absurd h id
          · exact absurd h id
      · exact absurd h id
    · exact absurd h id
  · exact am_okE hC hRt hdec hco h
theorem am_okC (cx : am_Cx p s m args c own cc nL dC dI cA) (hi : am_inj ad) (hf : ∀ q ∈ fl, am_flok own q) (hX : lw = true → va_X (ad 79) n xs s s.heap ∧ ad 79 < s.heap.size ∧ ¬ am_A ad (ad 79))
    (hC : ∀ (a : Nat) (ins : Instr) (b d : Nat), cs[a]? = some (ins, b, d) → am_HC p l e R s m args below meth c cells slots Q cc nL ad dC dI cA n xs ins b d (F a)) (hRt : am_HR p l e R s m args below meth c cells slots Q cc ad dC dI cA n xs ret K)
    (hdec : decode cc pc = .ok (ins, nx - pc)) (hco : am_co ret nL fl ki kl cs pc ins nx a b d v w = true) (h : am_sC lw n F K pc ins nx a b d v ls st D L (am_Sd p l e R s m args below meth c cells slots Q nL ad dC dI cA n xs)) : am_Sd p l e R s m args below meth c cells slots Q nL ad dC dI cA n xs pc ls st D L := by
  unfold am_sC at h
  split at h
  · -- goto
    intro rls H locs hl hR hS
    obtain ⟨hx, hb, -⟩ := cx
    simp only [am_co, Bool.and_eq_true, decide_eq_true_eq] at hco
    obtain ⟨ht, rfl⟩ := hco
    rw [Nat.add_sub_cancel_left] at hdec
    exact lv_goto hx hb hdec ht (h rls H locs hl hR hS)
  · -- if_icmp
    intro rls H locs hl hR hS
    obtain ⟨hx, hb, -⟩ := cx
    simp only [am_co, Bool.and_eq_true, decide_eq_true_eq] at hco
    obtain ⟨ht, rfl⟩ := hco
    rw [Nat.add_sub_cancel_left] at hdec
    split at h
    · split at h
      · exact lv_icmp_eq hx hb hdec ht (fun q => h.1 q rls H locs hl hR hS) (fun q => h.2 q rls H locs hl hR hS)
      · exact lv_icmp_ne hx hb hdec ht (fun q => h.1 q rls H locs hl hR hS) (fun q => h.2 q rls H locs hl hR hS)
      · exact lv_icmp_lt hx hb hdec ht (fun q => h.1 q rls H locs hl hR hS) (fun q => h.2 q rls H locs hl hR hS)
      · exact lv_icmp_ge hx hb hdec ht (fun q => h.1 q rls H locs hl hR hS) (fun q => h.2 q rls H locs hl hR hS)
      · exact lv_icmp_gt hx hb hdec ht (fun q => h.1 q rls H locs hl hR hS) (fun q => h.2 q rls H locs hl hR hS)
      · exact lv_icmp_le hx hb hdec ht (fun q => h.1 q rls H locs hl hR hS) (fun q => h.2 q rls H locs hl hR hS)
    · exact absurd h id
  · -- ifCond
    intro rls H locs hl hR hS
    obtain ⟨hx, hb, -⟩ := cx
    simp only [am_co, Bool.and_eq_true, decide_eq_true_eq] at hco
    obtain ⟨ht, rfl⟩ := hco
    rw [Nat.add_sub_cancel_left] at hdec
    split at h
    · split at h
      · exact lv_if_eq hx hb hdec ht (fun q => h.1 q rls H locs hl hR hS) (fun q => h.2 q rls H locs hl hR hS)
      · exact lv_if_ne hx hb hdec ht (fun q => h.1 q rls H locs hl hR hS) (fun q => h.2 q rls H locs hl hR hS)
      · exact lv_if_lt hx hb hdec ht (fun q => h.1 q rls H locs hl hR hS) (fun q => h.2 q rls H locs hl hR hS)
      · exact lv_if_ge hx hb hdec ht (fun q => h.1 q rls H locs hl hR hS) (fun q => h.2 q rls H locs hl hR hS)
      · exact lv_if_gt hx hb hdec ht (fun q => h.1 q rls H locs hl hR hS) (fun q => h.2 q rls H locs hl hR hS)
      · exact lv_if_le hx hb hdec ht (fun q => h.1 q rls H locs hl hR hS) (fun q => h.2 q rls H locs hl hR hS)
    · exact absurd h id
  · -- ifnull
    intro rls H locs hl hR hS
    obtain ⟨hx, hb, -⟩ := cx
    simp only [am_co, Bool.and_eq_true, decide_eq_true_eq] at hco
    obtain ⟨ht, rfl⟩ := hco
    rw [Nat.add_sub_cancel_left] at hdec
    split at h
    · exact lv_ifnull hx hb hdec (h rls H locs hl hR hS)
    · exact lv_ifnullN hx hb hdec ht (h rls H locs hl hR hS)
    · exact absurd h id
  · -- ifnonnull
    intro rls H locs hl hR hS
    obtain ⟨hx, hb, -⟩ := cx
    simp only [am_co, Bool.and_eq_true, decide_eq_true_eq] at hco
    obtain ⟨ht, rfl⟩ := hco
    rw [Nat.add_sub_cancel_left] at hdec
    split at h
    · exact lv_ifnonnull hx hb hdec ht (h rls H locs hl hR hS)
    · exact lv_ifnonnullN hx hb hdec (h rls H locs hl hR hS)
    · exact absurd h id
  · -- tableswitch
    rename_i df lo hi' offs
    intro rls H locs hl hR hS
    obtain ⟨hx, hb, -⟩ := cx
    simp only [am_co, Bool.and_eq_true, decide_eq_true_eq] at hco
    obtain ⟨ht, hsz, hall⟩ := hco
    split at h
    · rename_i x rest
      by_cases hout : x.toInt < lo ∨ hi' < x.toInt
      · exact lv_tableOut hx hb hdec hout ht (h.2 hout rls H locs hl hR hS)
      · have h1 : ¬ x.toInt < lo := fun q => hout (Or.inl q)
        have h2 : ¬ hi' < x.toInt := fun q => hout (Or.inr q)
        have hlt : (x.toInt - lo).toNat < offs.size := by omega
        have ho : offs[(x.toInt - lo).toNat]? = some offs[(x.toInt - lo).toNat] := Array.getElem?_eq_getElem hlt
        have h0 : 0 ≤ (pc : Int) + offs[(x.toInt - lo).toNat] := by
          have := Array.all_eq_true.mp hall _ hlt
          simpa using this
        refine lv_tableIn hx hb hdec h1 h2 ho (tgt := ((pc : Int) + offs[(x.toInt - lo).toNat]).toNat) (by omega) (h.1 _ _ ho (by omega) rls H locs hl hR hS)
    · exact absurd h id
  · exact am_okD cx hi hf hX hC hRt hdec hco h
theorem am_okB (cx : am_Cx p s m args c own cc nL dC dI cA) (hi : am_inj ad) (hf : ∀ q ∈ fl, am_flok own q) (hX : lw = true → va_X (ad 79) n xs s s.heap ∧ ad 79 < s.heap.size ∧ ¬ am_A ad (ad 79))
    (hC : ∀ (a : Nat) (ins : Instr) (b d : Nat), cs[a]? = some (ins, b, d) → am_HC p l e R s m args below meth c cells slots Q cc nL ad dC dI cA n xs ins b d (F a)) (hRt : am_HR p l e R s m args below meth c cells slots Q cc ad dC dI cA n xs ret K)
    (hdec : decode cc pc = .ok (ins, nx - pc)) (hco : am_co ret nL fl ki kl cs pc ins nx a b d v w = true) (h : am_sB lw n F K pc ins nx a b d v ls st D L (am_Sd p l e R s m args below meth c cells slots Q nL ad dC dI cA n xs)) : am_Sd p l e R s m args below meth c cells slots Q nL ad dC dI cA n xs pc ls st D L := by
  unfold am_sB at h
  split at h
  · intro rls H locs hl hR hS
    obtain ⟨hx, hb, -⟩ := cx
    simp only [am_co, decide_eq_true_eq] at hco
    subst hco
    rw [Nat.add_sub_cancel_left] at hdec
    split at h
    · exact lv_iadd hx hb hdec (h rls H locs hl hR hS)
    · exact absurd h id
  · intro rls H locs hl hR hS
    obtain ⟨hx, hb, -⟩ := cx
    simp only [am_co, decide_eq_true_eq] at hco
    subst hco
    rw [Nat.add_sub_cancel_left] at hdec
    split at h
    · exact lv_isub hx hb hdec (h rls H locs hl hR hS)
    · exact absurd h id
  · intro rls H locs hl hR hS
    obtain ⟨hx, hb, -⟩ := cx
    simp only [am_co, decide_eq_true_eq] at hco
    subst hco
    rw [Nat.add_sub_cancel_left] at hdec
    split at h
    · exact lv_imul hx hb hdec (h rls H locs hl hR hS)
    · exact absurd h id
  · intro rls H locs hl hR hS
    obtain ⟨hx, hb, -⟩ := cx
    simp only [am_co, decide_eq_true_eq] at hco
    subst hco
    rw [Nat.add_sub_cancel_left] at hdec
    split at h
    · exact lv_iand hx hb hdec (h rls H locs hl hR hS)
    · exact absurd h id
  · intro rls H locs hl hR hS
    obtain ⟨hx, hb, -⟩ := cx
    simp only [am_co, decide_eq_true_eq] at hco
    subst hco
    rw [Nat.add_sub_cancel_left] at hdec
    split at h
    · exact lv_ior hx hb hdec (h rls H locs hl hR hS)
    · exact absurd h id
  · intro rls H locs hl hR hS
    obtain ⟨hx, hb, -⟩ := cx
    simp only [am_co, decide_eq_true_eq] at hco
    subst hco
    rw [Nat.add_sub_cancel_left] at hdec
    split at h
    · exact lv_ixor hx hb hdec (h rls H locs hl hR hS)
    · exact absurd h id
  · intro rls H locs hl hR hS
    obtain ⟨hx, hb, -⟩ := cx
    simp only [am_co, decide_eq_true_eq] at hco
    subst hco
    rw [Nat.add_sub_cancel_left] at hdec
    split at h
    · exact lv_ishl hx hb hdec (h rls H locs hl hR hS)
    · exact absurd h id
  · intro rls H locs hl hR hS
    obtain ⟨hx, hb, -⟩ := cx
    simp only [am_co, decide_eq_true_eq] at hco
    subst hco
    rw [Nat.add_sub_cancel_left] at hdec
    split at h
    · exact lv_ishr hx hb hdec (h rls H locs hl hR hS)
    · exact absurd h id
  · intro rls H locs hl hR hS
    obtain ⟨hx, hb, -⟩ := cx
    simp only [am_co, decide_eq_true_eq] at hco
    subst hco
    rw [Nat.add_sub_cancel_left] at hdec
    split at h
    · exact lv_iushr hx hb hdec rfl (h rls H locs hl hR hS)
    · exact absurd h id
  · intro rls H locs hl hR hS
    obtain ⟨hx, hb, -⟩ := cx
    simp only [am_co, decide_eq_true_eq] at hco
    subst hco
    rw [Nat.add_sub_cancel_left] at hdec
    split at h
    · exact lv_idiv hx hb hdec h.1 (h.2 rls H locs hl hR hS)
    · exact absurd h id
  · intro rls H locs hl hR hS
    obtain ⟨hx, hb, -⟩ := cx
    simp only [am_co, decide_eq_true_eq] at hco
    subst hco
    rw [Nat.add_sub_cancel_left] at hdec
    split at h
    · exact lv_irem hx hb hdec h.1 (h.2 rls H locs hl hR hS)
    · exact absurd h id
  · intro rls H locs hl hR hS
    obtain ⟨hx, hb, -⟩ := cx
    simp only [am_co, decide_eq_true_eq] at hco
    subst hco
    rw [Nat.add_sub_cancel_left] at hdec
    split at h
    · exact lv_ineg hx hb hdec (h rls H locs hl hR hS)
    · exact absurd h id
  · intro rls H locs hl hR hS
    obtain ⟨hx, hb, -⟩ := cx
    simp only [am_co, decide_eq_true_eq] at hco
    subst hco
    rw [Nat.add_sub_cancel_left] at hdec
    split at h
    · exact lv_ladd hx hb hdec (h rls H locs hl hR hS)
    · exact absurd h id
  · intro rls H locs hl hR hS
    obtain ⟨hx, hb, -⟩ := cx
    simp only [am_co, decide_eq_true_eq] at hco
    subst hco
    rw [Nat.add_sub_cancel_left] at hdec
    split at h
    · exact lv_lsub hx hb hdec (h rls H locs hl hR hS)
    · exact absurd h id
  · intro rls H locs hl hR hS
    obtain ⟨hx, hb, -⟩ := cx
    simp only [am_co, decide_eq_true_eq] at hco
    subst hco
    rw [Nat.add_sub_cancel_left] at hdec
    split at h
    · exact lv_lmul hx hb hdec (h rls H locs hl hR hS)
    · exact absurd h id
  · intro rls H locs hl hR hS
    obtain ⟨hx, hb, -⟩ := cx
    simp only [am_co, decide_eq_true_eq] at hco
    subst hco
    rw [Nat.add_sub_cancel_left] at hdec
    split at h
    · exact lv_ldiv hx hb hdec h.1 (h.2 rls H locs hl hR hS)
    · exact absurd h id
  · intro rls H locs hl hR hS
    obtain ⟨hx, hb, -⟩ := cx
    simp only [am_co, decide_eq_true_eq] at hco
    subst hco
    rw [Nat.add_sub_cancel_left] at hdec
    split at h
    · exact lv_lrem hx hb hdec h.1 (h.2 rls H locs hl hR hS)
    · exact absurd h id
  · intro rls H locs hl hR hS
    obtain ⟨hx, hb, -⟩ := cx
    simp only [am_co, decide_eq_true_eq] at hco
    subst hco
    rw [Nat.add_sub_cancel_left] at hdec
    split at h
    · exact lv_lshl hx hb hdec rfl (h rls H locs hl hR hS)
    · exact absurd h id
  · intro rls H locs hl hR hS
    obtain ⟨hx, hb, -⟩ := cx
    simp only [am_co, decide_eq_true_eq] at hco
    subst hco
    rw [Nat.add_sub_cancel_left] at hdec
    split at h
    · exact W.lcmp hx hb hdec (h rls H locs hl hR hS)
    · exact absurd h id
  · intro rls H locs hl hR hS
    obtain ⟨hx, hb, -⟩ := cx
    simp only [am_co, decide_eq_true_eq] at hco
    subst hco
    rw [Nat.add_sub_cancel_left] at hdec
    split at h
    · exact lv_i2l hx hb hdec rfl (h rls H locs hl hR hS)
    · exact absurd h id
  · intro rls H locs hl hR hS
    obtain ⟨hx, hb, -⟩ := cx
    simp only [am_co, decide_eq_true_eq] at hco
    subst hco
    rw [Nat.add_sub_cancel_left] at hdec
    split at h
    · exact lv_i2b hx hb hdec rfl (h rls H locs hl hR hS)
    · exact absurd h id
  · intro rls H locs hl hR hS
    obtain ⟨hx, hb, -⟩ := cx
    simp only [am_co, decide_eq_true_eq] at hco
    subst hco
    rw [Nat.add_sub_cancel_left] at hdec
    split at h
    · exact lv_i2s hx hb hdec rfl (h rls H locs hl hR hS)
    · exact absurd h id
  · exact am_okC cx hi hf hX hC hRt hdec hco h
theorem am_okA (cx : am_Cx p s m args c own cc nL dC dI cA) (hi : am_inj ad) (hf : ∀ q ∈ fl, am_flok own q) (hki : ∀ q ∈ ki, Cond.constant own q.1 q.2 ∈ am_tbl) (hkl : ∀ q ∈ kl, Cond.constantLong own q.1 q.2 ∈ am_tbl) (hX : lw = true → va_X (ad 79) n xs s s.heap ∧ ad 79 < s.heap.size ∧ ¬ am_A ad (ad 79))
    (hC : ∀ (a : Nat) (ins : Instr) (b d : Nat), cs[a]? = some (ins, b, d) → am_HC p l e R s m args below meth c cells slots Q cc nL ad dC dI cA n xs ins b d (F a)) (hRt : am_HR p l e R s m args below meth c cells slots Q cc ad dC dI cA n xs ret K)
    (hdec : decode cc pc = .ok (ins, nx - pc)) (hco : am_co ret nL fl ki kl cs pc ins nx a b d v w = true) (h : am_sA lw n F K pc ins nx a b d v w ls st D L (am_Sd p l e R s m args below meth c cells slots Q nL ad dC dI cA n xs)) : am_Sd p l e R s m args below meth c cells slots Q nL ad dC dI cA n xs pc ls st D L := by
  unfold am_sA at h
  split at h
  · intro rls H locs hl hR hS
    obtain ⟨hx, hb, hml, hown, hts, hK, hN⟩ := cx
    simp only [am_co, Bool.and_eq_true, decide_eq_true_eq] at hco
    obtain ⟨rfl, hv⟩ := hco
    rw [Nat.add_sub_cancel_left] at hdec
    exact lv_iconst hx hb hdec hv (h rls H locs hl hR hS)
  · intro rls H locs hl hR hS
    obtain ⟨hx, hb, hml, hown, hts, hK, hN⟩ := cx
    simp only [am_co, Bool.and_eq_true, decide_eq_true_eq] at hco
    obtain ⟨rfl, hv⟩ := hco
    rw [Nat.add_sub_cancel_left] at hdec
    exact lv_bipush hx hb hdec hv (h rls H locs hl hR hS)
  · intro rls H locs hl hR hS
    obtain ⟨hx, hb, hml, hown, hts, hK, hN⟩ := cx
    simp only [am_co, Bool.and_eq_true, decide_eq_true_eq] at hco
    obtain ⟨rfl, hv⟩ := hco
    rw [Nat.add_sub_cancel_left] at hdec
    exact lv_sipush hx hb hdec hv (h rls H locs hl hR hS)
  · intro rls H locs hl hR hS
    obtain ⟨hx, hb, hml, hown, hts, hK, hN⟩ := cx
    simp only [am_co, Bool.and_eq_true, decide_eq_true_eq] at hco
    obtain ⟨rfl, hv⟩ := hco
    rw [Nat.add_sub_cancel_left] at hdec
    exact lv_ldc hx hb hown (hts _ (hki _ hv)) hdec (h rls H locs hl hR hS)
  · intro rls H locs hl hR hS
    obtain ⟨hx, hb, hml, hown, hts, hK, hN⟩ := cx
    simp only [am_co, Bool.and_eq_true, decide_eq_true_eq] at hco
    obtain ⟨rfl, hv⟩ := hco
    rw [Nat.add_sub_cancel_left] at hdec
    exact lv_ldcw hx hb hown (hts _ (hki _ hv)) hdec (h rls H locs hl hR hS)
  · intro rls H locs hl hR hS
    obtain ⟨hx, hb, hml, hown, hts, hK, hN⟩ := cx
    simp only [am_co, Bool.and_eq_true, decide_eq_true_eq] at hco
    obtain ⟨rfl, hv⟩ := hco
    rw [Nat.add_sub_cancel_left] at hdec
    exact lv_lconst hx hb hdec hv (h rls H locs hl hR hS)
  · intro rls H locs hl hR hS
    obtain ⟨hx, hb, hml, hown, hts, hK, hN⟩ := cx
    simp only [am_co, Bool.and_eq_true, decide_eq_true_eq] at hco
    obtain ⟨rfl, hv⟩ := hco
    rw [Nat.add_sub_cancel_left] at hdec
    exact lv_ldc2 hx hb hown (hts _ (hkl _ hv)) hdec (h rls H locs hl hR hS)
  · intro rls H locs hl hR hS
    obtain ⟨hx, hb, hml, hown, hts, hK, hN⟩ := cx
    simp only [am_co, Bool.and_eq_true, decide_eq_true_eq] at hco
    subst hco
    rw [Nat.add_sub_cancel_left] at hdec
    exact lv_null hx hb hdec (h rls H locs hl hR hS)
  · intro rls H locs hl hR hS
    obtain ⟨hx, hb, hml, hown, hts, hK, hN⟩ := cx
    simp only [am_co, Bool.and_eq_true, decide_eq_true_eq] at hco
    obtain ⟨rfl, hv⟩ := hco
    rw [Nat.add_sub_cancel_left] at hdec
    split at h
    · rename_i e
      exact lv_iload hx hb hdec (by subst hv; exact hl.2.2 _ _ e) (h rls H locs hl hR hS)
    · exact absurd h id
  · intro rls H locs hl hR hS
    obtain ⟨hx, hb, hml, hown, hts, hK, hN⟩ := cx
    simp only [am_co, Bool.and_eq_true, decide_eq_true_eq] at hco
    obtain ⟨rfl, hv⟩ := hco
    rw [Nat.add_sub_cancel_left] at hdec
    split at h
    · rename_i e
      exact lv_iload_n hx hb hdec hv (hl.2.2 _ _ e) (h rls H locs hl hR hS)
    · exact absurd h id
  · intro rls H locs hl hR hS
    obtain ⟨hx, hb, hml, hown, hts, hK, hN⟩ := cx
    simp only [am_co, Bool.and_eq_true, decide_eq_true_eq] at hco
    obtain ⟨rfl, hv⟩ := hco
    rw [Nat.add_sub_cancel_left] at hdec
    split at h
    · rename_i e
      exact lv_lload hx hb hdec (by subst hv; exact hl.2.2 _ _ e) (h rls H locs hl hR hS)
    · exact absurd h id
  · intro rls H locs hl hR hS
    obtain ⟨hx, hb, hml, hown, hts, hK, hN⟩ := cx
    simp only [am_co, Bool.and_eq_true, decide_eq_true_eq] at hco
    obtain ⟨rfl, hv⟩ := hco
    rw [Nat.add_sub_cancel_left] at hdec
    split at h
    · rename_i e
      exact lv_lload_n hx hb hdec hv (hl.2.2 _ _ e) (h rls H locs hl hR hS)
    · exact absurd h id
  · intro rls H locs hl hR hS
    obtain ⟨hx, hb, hml, hown, hts, hK, hN⟩ := cx
    simp only [am_co, Bool.and_eq_true, decide_eq_true_eq] at hco
    obtain ⟨rfl, hv⟩ := hco
    rw [Nat.add_sub_cancel_left] at hdec
    split at h
    · rename_i e
      exact lv_aload hx hb hdec (by subst hv; exact hl.2.2 _ _ e) (h rls H locs hl hR hS)
    · rename_i e
      exact lv_aloadN hx hb hdec (by subst hv; exact hl.2.2 _ _ e) (h rls H locs hl hR hS)
    · exact absurd h id
  · intro rls H locs hl hR hS
    obtain ⟨hx, hb, hml, hown, hts, hK, hN⟩ := cx
    simp only [am_co, Bool.and_eq_true, decide_eq_true_eq] at hco
    obtain ⟨rfl, hv⟩ := hco
    rw [Nat.add_sub_cancel_left] at hdec
    split at h
    · rename_i e
      exact lv_aload_n hx hb hdec hv (hl.2.2 _ _ e) (h rls H locs hl hR hS)
    · rename_i e
      exact lv_aload_nN hx hb hdec hv (hl.2.2 _ _ e) (h rls H locs hl hR hS)
    · exact absurd h id
  · intro rls H locs hl hR hS
    obtain ⟨hx, hb, hml, hown, hts, hK, hN⟩ := cx
    simp only [am_co, Bool.and_eq_true, decide_eq_true_eq] at hco
    obtain ⟨rfl, rfl, hn⟩ := hco
    rw [Nat.add_sub_cancel_left] at hdec
    split at h
    · obtain ⟨ls', h1, -, h3⟩ := am_s1_ex _ _ _ _ h
      exact lv_istore hx hb hdec (am_lv_has hl) hn rfl (fun rls' hh => h1 rls' H locs (am_lv1 hl hh h3) hR hS)
    · exact absurd h id
  · intro rls H locs hl hR hS
    obtain ⟨hx, hb, hml, hown, hts, hK, hN⟩ := cx
    simp only [am_co, Bool.and_eq_true, decide_eq_true_eq] at hco
    obtain ⟨rfl, hv, hn⟩ := hco
    rw [Nat.add_sub_cancel_left] at hdec
    split at h
    · obtain ⟨ls', h1, -, h3⟩ := am_s1_ex _ _ _ _ h
      exact lv_istore_n hx hb hdec hv (am_lv_has hl) hn rfl (fun rls' hh => h1 rls' H locs (am_lv1 hl hh h3) hR hS)
    · exact absurd h id
  · intro rls H locs hl hR hS
    obtain ⟨hx, hb, hml, hown, hts, hK, hN⟩ := cx
    simp only [am_co, Bool.and_eq_true, decide_eq_true_eq] at hco
    obtain ⟨rfl, rfl, hn⟩ := hco
    rw [Nat.add_sub_cancel_left] at hdec
    split at h
    · obtain ⟨ls', h1, -, h3⟩ := am_s2_ex _ _ _ _ h
      exact lv_lstore hx hb hdec (am_lv_has hl) hn rfl (fun rls' hh => h1 rls' H locs (am_lv2 hl hh h3) hR hS)
    · exact absurd h id
  · intro rls H locs hl hR hS
    obtain ⟨hx, hb, hml, hown, hts, hK, hN⟩ := cx
    simp only [am_co, Bool.and_eq_true, decide_eq_true_eq] at hco
    obtain ⟨rfl, hv, hn⟩ := hco
    rw [Nat.add_sub_cancel_left] at hdec
    split at h
    · obtain ⟨ls', h1, -, h3⟩ := am_s2_ex _ _ _ _ h
      exact lv_lstore_n hx hb hdec hv (am_lv_has hl) hn rfl (fun rls' hh => h1 rls' H locs (am_lv2 hl hh h3) hR hS)
    · exact absurd h id
  · intro rls H locs hl hR hS
    obtain ⟨hx, hb, hml, hown, hts, hK, hN⟩ := cx
    simp only [am_co, Bool.and_eq_true, decide_eq_true_eq] at hco
    obtain ⟨rfl, rfl, hn⟩ := hco
    rw [Nat.add_sub_cancel_left] at hdec
    split at h
    · obtain ⟨ls', h1, -, h3⟩ := am_s1_ex _ _ _ _ h
      exact lv_astore hx hb hdec (am_lv_has hl) hn rfl (fun rls' hh => h1 rls' H locs (am_lv1 hl hh h3) hR hS)
    · obtain ⟨ls', h1, -, h3⟩ := am_s1_ex _ _ _ _ h
      exact lv_astoreN hx hb hdec (am_lv_has hl) hn rfl (fun rls' hh => h1 rls' H locs (am_lv1 hl hh h3) hR hS)
    · exact absurd h id
  · intro rls H locs hl hR hS
    obtain ⟨hx, hb, hml, hown, hts, hK, hN⟩ := cx
    simp only [am_co, Bool.and_eq_true, decide_eq_true_eq] at hco
    obtain ⟨rfl, hv, hn⟩ := hco
    rw [Nat.add_sub_cancel_left] at hdec
    split at h
    · obtain ⟨ls', h1, -, h3⟩ := am_s1_ex _ _ _ _ h
      exact lv_astore_n hx hb hdec hv (am_lv_has hl) hn rfl (fun rls' hh => h1 rls' H locs (am_lv1 hl hh h3) hR hS)
    · obtain ⟨ls', h1, -, h3⟩ := am_s1_ex _ _ _ _ h
      exact lv_astore_nN hx hb hdec hv (am_lv_has hl) hn rfl (fun rls' hh => h1 rls' H locs (am_lv1 hl hh h3) hR hS)
    · exact absurd h id
  · intro rls H locs hl hR hS
    obtain ⟨hx, hb, hml, hown, hts, hK, hN⟩ := cx
    simp only [am_co, Bool.and_eq_true, decide_eq_true_eq] at hco
    obtain ⟨rfl, rfl, hv, hn⟩ := hco
    rw [Nat.add_sub_cancel_left] at hdec
    split at h
    · rename_i x e
      obtain ⟨ls', h1, -, h3⟩ := am_s1_ex _ _ _ _ h
      obtain ⟨j, hj⟩ := List.getElem?_of_mem (am_ents_mem hl e)
      exact lv_iinc hx hb hdec (am_lv_has hl) hj (by rw [hv]) hn rfl (fun rls' hh => h1 rls' H locs (am_lv1 hl hh h3) hR hS)
    · exact absurd h id
  · intro rls H locs hl hR hS
    obtain ⟨hx, hb, hml, hown, hts, hK, hN⟩ := cx
    simp only [am_co, Bool.and_eq_true, decide_eq_true_eq] at hco
    subst hco
    rw [Nat.add_sub_cancel_left] at hdec
    split at h
    · exact lv_dup hx hb hdec rfl (h rls H locs hl hR hS)
    · exact lv_dup hx hb hdec rfl (h rls H locs hl hR hS)
    · exact absurd h id
  · intro rls H locs hl hR hS
    obtain ⟨hx, hb, hml, hown, hts, hK, hN⟩ := cx
    simp only [am_co, Bool.and_eq_true, decide_eq_true_eq] at hco
    subst hco
    rw [Nat.add_sub_cancel_left] at hdec
    split at h
    · exact lv_dup2_11 hx hb hdec rfl rfl (h rls H locs hl hR hS)
    · exact absurd h id
  · intro rls H locs hl hR hS
    obtain ⟨hx, hb, hml, hown, hts, hK, hN⟩ := cx
    simp only [am_co, Bool.and_eq_true, decide_eq_true_eq] at hco
    subst hco
    rw [Nat.add_sub_cancel_left] at hdec
    split at h
    · exact lv_pop hx hb hdec rfl (h rls H locs hl hR hS)
    · exact absurd h id
  · exact am_okB cx hi hf hX hC hRt hdec hco h
/-- THE ABSTRACT MACHINE IS SOUND -/
theorem am_sound {C : Nat → Option am_I} (cx : am_Cx p s m args c own cc nL dC dI cA) (hi : am_inj ad) (hf : ∀ q ∈ fl, am_flok own q) (hki : ∀ q ∈ ki, Cond.constant own q.1 q.2 ∈ am_tbl) (hkl : ∀ q ∈ kl, Cond.constantLong own q.1 q.2 ∈ am_tbl) (hX : lw = true → va_X (ad 79) n xs s s.heap ∧ ad 79 < s.heap.size ∧ ¬ am_A ad (ad 79))
    (hC : ∀ (a : Nat) (ins : Instr) (b d : Nat), cs[a]? = some (ins, b, d) → am_HC p l e R s m args below meth c cells slots Q cc nL ad dC dI cA n xs ins b d (F a)) (hRt : am_HR p l e R s m args below meth c cells slots Q cc ad dC dI cA n xs ret K)
    (hck : ∀ pc, am_ck cc ret nL fl ki kl cs pc (C pc) = true) (h : am_Wp lw n C F K pc ls st D L) : am_Sd p l e R s m args below meth c cells slots Q nL ad dC dI cA n xs pc ls st D L := by
  refine h _ (fun pc ls st D L h' => ?_)
  unfold am_st at h'
  have hk := hck pc
  split at h'
  · rename_i q ins nx a b d v w e1
    rw [e1] at hk
    simp only [am_ck, Bool.and_eq_true, decide_eq_true_eq] at hk
    exact am_okA cx hi hf hki hkl hX hC hRt hk.1 hk.2 h'
  · exact absurd h' id
end SO
end
