theorem am_m1 {w : Cond} {i : Nat} (hi : tables_1_1[i]? = some w) (hg : goodWord w = true) : w ∈ am_tbl := List.mem_filter.mpr ⟨List.mem_append_right _ (List.mem_append_left _ (List.mem_of_getElem? hi)), hg⟩
theorem am_n1 {w : Cond} {i : Nat} (hi : tables_1_1[i]? = some w) (hg : am_isN w = true) : w ∈ am_nest := List.mem_filter.mpr ⟨List.mem_append_left _ (List.mem_of_getElem? hi), hg⟩
theorem am_m2 {w : Cond} {i : Nat} (hi : tables_1_2[i]? = some w) (hg : goodWord w = true) : w ∈ am_tbl := List.mem_filter.mpr ⟨List.mem_append_right _ (List.mem_append_right _ (List.mem_append_left _ (List.mem_of_getElem? hi))), hg⟩
theorem am_n2 {w : Cond} {i : Nat} (hi : tables_1_2[i]? = some w) (hg : am_isN w = true) : w ∈ am_nest := List.mem_filter.mpr ⟨List.mem_append_right _ (List.mem_append_left _ (List.mem_of_getElem? hi)), hg⟩
theorem am_m3 {w : Cond} {i : Nat} (hi : tables_1_3[i]? = some w) (hg : goodWord w = true) : w ∈ am_tbl := List.mem_filter.mpr ⟨List.mem_append_right _ (List.mem_append_right _ (List.mem_append_right _ (List.mem_append_left _ (List.mem_of_getElem? hi)))), hg⟩
theorem am_n3 {w : Cond} {i : Nat} (hi : tables_1_3[i]? = some w) (hg : am_isN w = true) : w ∈ am_nest := List.mem_filter.mpr ⟨List.mem_append_right _ (List.mem_append_right _ (List.mem_append_left _ (List.mem_of_getElem? hi))), hg⟩
theorem am_m4 {w : Cond} {i : Nat} (hi : tables_1_4[i]? = some w) (hg : goodWord w = true) : w ∈ am_tbl := List.mem_filter.mpr ⟨List.mem_append_right _ (List.mem_append_right _ (List.mem_append_right _ (List.mem_append_right _ (List.mem_append_left _ (List.mem_of_getElem? hi))))), hg⟩
theorem am_n4 {w : Cond} {i : Nat} (hi : tables_1_4[i]? = some w) (hg : am_isN w = true) : w ∈ am_nest := List.mem_filter.mpr ⟨List.mem_append_right _ (List.mem_append_right _ (List.mem_append_right _ (List.mem_append_left _ (List.mem_of_getElem? hi)))), hg⟩
theorem am_m5 {w : Cond} {i : Nat} (hi : tables_1_5[i]? = some w) (hg : goodWord w = true) : w ∈ am_tbl := List.mem_filter.mpr ⟨List.mem_append_right _ (List.mem_append_right _ (List.mem_append_right _ (List.mem_append_right _ (List.mem_append_right _ (List.mem_append_left _ (List.mem_of_getElem? hi)))))), hg⟩
theorem am_n5 {w : Cond} {i : Nat} (hi : tables_1_5[i]? = some w) (hg : am_isN w = true) : w ∈ am_nest := List.mem_filter.mpr ⟨List.mem_append_right _ (List.mem_append_right _ (List.mem_append_right _ (List.mem_append_right _ (List.mem_append_left _ (List.mem_of_getElem? hi))))), hg⟩
theorem am_m6 {w : Cond} {i : Nat} (hi : tables_1_6[i]? = some w) (hg : goodWord w = true) : w ∈ am_tbl := List.mem_filter.mpr ⟨List.mem_append_right _ (List.mem_append_right _ (List.mem_append_right _ (List.mem_append_right _ (List.mem_append_right _ (List.mem_append_right _ (List.mem_of_getElem? hi)))))), hg⟩
theorem am_n6 {w : Cond} {i : Nat} (hi : tables_1_6[i]? = some w) (hg : am_isN w = true) : w ∈ am_nest := List.mem_filter.mpr ⟨List.mem_append_right _ (List.mem_append_right _ (List.mem_append_right _ (List.mem_append_right _ (List.mem_append_right _ (List.mem_of_getElem? hi))))), hg⟩
theorem flX_14 : am_flok "MilkHorse" (14, 10, 0, false, false) := ⟨(R_10, F_10, 17), rfl, rfl, by decide, rfl, Or.inl ⟨rfl, am_m2 (i := 94) rfl rfl⟩, fun h => absurd h (by decide)⟩
theorem flX_18 : am_flok "MilkHorse" (18, 10, 1, false, false) := ⟨(R_10, F_10, 17), rfl, rfl, by decide, rfl, Or.inl ⟨rfl, am_m2 (i := 95) rfl rfl⟩, fun h => absurd h (by decide)⟩
theorem flX_21 : am_flok "MilkHorse" (21, 10, 2, false, false) := ⟨(R_10, F_10, 17), rfl, rfl, by decide, rfl, Or.inl ⟨rfl, am_m2 (i := 96) rfl rfl⟩, fun h => absurd h (by decide)⟩
theorem flX_27 : am_flok "MilkHorse" (27, 10, 3, false, false) := ⟨(R_10, F_10, 17), rfl, rfl, by decide, rfl, Or.inl ⟨rfl, am_m2 (i := 97) rfl rfl⟩, fun h => absurd h (by decide)⟩
theorem flX_34 : am_flok "MilkHorse" (34, 10, 4, false, false) := ⟨(R_10, F_10, 17), rfl, rfl, by decide, rfl, Or.inl ⟨rfl, am_m2 (i := 98) rfl rfl⟩, fun h => absurd h (by decide)⟩
theorem flX_41 : am_flok "MilkHorse" (41, 10, 5, false, false) := ⟨(R_10, F_10, 17), rfl, rfl, by decide, rfl, Or.inl ⟨rfl, am_m2 (i := 99) rfl rfl⟩, fun h => absurd h (by decide)⟩
theorem flX_45 : am_flok "MilkHorse" (45, 10, 6, false, false) := ⟨(R_10, F_10, 17), rfl, rfl, by decide, rfl, Or.inl ⟨rfl, am_m2 (i := 100) rfl rfl⟩, fun h => absurd h (by decide)⟩
theorem flX_51 : am_flok "MilkHorse" (51, 10, 7, false, false) := ⟨(R_10, F_10, 17), rfl, rfl, by decide, rfl, Or.inl ⟨rfl, am_m2 (i := 101) rfl rfl⟩, fun h => absurd h (by decide)⟩
theorem flX_58 : am_flok "MilkHorse" (58, 10, 8, false, false) := ⟨(R_10, F_10, 17), rfl, rfl, by decide, rfl, Or.inl ⟨rfl, am_m2 (i := 102) rfl rfl⟩, fun h => absurd h (by decide)⟩
theorem flX_65 : am_flok "MilkHorse" (65, 10, 9, false, false) := ⟨(R_10, F_10, 17), rfl, rfl, by decide, rfl, Or.inl ⟨rfl, am_m2 (i := 103) rfl rfl⟩, fun h => absurd h (by decide)⟩
theorem flX_69 : am_flok "MilkHorse" (69, 10, 10, false, false) := ⟨(R_10, F_10, 17), rfl, rfl, by decide, rfl, Or.inl ⟨rfl, am_m2 (i := 104) rfl rfl⟩, fun h => absurd h (by decide)⟩
theorem flX_72 : am_flok "MilkHorse" (72, 10, 11, false, false) := ⟨(R_10, F_10, 17), rfl, rfl, by decide, rfl, Or.inl ⟨rfl, am_m2 (i := 105) rfl rfl⟩, fun h => absurd h (by decide)⟩
theorem flX_78 : am_flok "MilkHorse" (78, 10, 12, false, false) := ⟨(R_10, F_10, 17), rfl, rfl, by decide, rfl, Or.inl ⟨rfl, am_m2 (i := 106) rfl rfl⟩, fun h => absurd h (by decide)⟩
theorem flX_85 : am_flok "MilkHorse" (85, 10, 13, false, false) := ⟨(R_10, F_10, 17), rfl, rfl, by decide, rfl, Or.inl ⟨rfl, am_m2 (i := 107) rfl rfl⟩, fun h => absurd h (by decide)⟩
theorem flX_89 : am_flok "MilkHorse" (89, 10, 14, false, false) := ⟨(R_10, F_10, 17), rfl, rfl, by decide, rfl, Or.inl ⟨rfl, am_m2 (i := 108) rfl rfl⟩, fun h => absurd h (by decide)⟩
theorem flX_95 : am_flok "MilkHorse" (95, 10, 15, false, false) := ⟨(R_10, F_10, 17), rfl, rfl, by decide, rfl, Or.inl ⟨rfl, am_m2 (i := 109) rfl rfl⟩, fun h => absurd h (by decide)⟩
theorem flX_99 : am_flok "MilkHorse" (99, 10, 16, false, true) := ⟨(R_10, F_10, 17), rfl, rfl, by decide, rfl, Or.inl ⟨rfl, am_m2 (i := 110) rfl rfl⟩, fun _ => ⟨rfl, rfl, (by decide +kernel)⟩⟩
theorem flX_129 : am_flok "MilkHorse" (129, 4, 0, true, false) := ⟨(R_4, F_4, 8), rfl, rfl, by decide, rfl, Or.inr ⟨rfl, am_n1 (i := 98) rfl rfl⟩, fun h => absurd h (by decide)⟩
theorem flX_132 : am_flok "MilkHorse" (132, 4, 1, true, false) := ⟨(R_4, F_4, 8), rfl, rfl, by decide, rfl, Or.inr ⟨rfl, am_n1 (i := 101) rfl rfl⟩, fun h => absurd h (by decide)⟩
theorem flX_138 : am_flok "MilkHorse" (138, 4, 4, true, true) := ⟨(R_4, F_4, 8), rfl, rfl, by decide, rfl, Or.inr ⟨rfl, am_n1 (i := 108) rfl rfl⟩, fun _ => ⟨rfl, rfl, (by decide +kernel)⟩⟩
theorem flX_141 : am_flok "MilkHorse" (141, 4, 5, true, true) := ⟨(R_4, F_4, 8), rfl, rfl, by decide, rfl, Or.inr ⟨rfl, am_n1 (i := 111) rfl rfl⟩, fun _ => ⟨rfl, rfl, (by decide +kernel)⟩⟩
theorem flX_144 : am_flok "MilkHorse" (144, 4, 6, true, true) := ⟨(R_4, F_4, 8), rfl, rfl, by decide, rfl, Or.inr ⟨rfl, am_n1 (i := 114) rfl rfl⟩, fun _ => ⟨rfl, rfl, (by decide +kernel)⟩⟩
theorem flX_158 : am_flok "MilkHorse" (158, 5, 3, true, true) := ⟨(R_5, F_5, 4), rfl, rfl, by decide, rfl, Or.inr ⟨rfl, am_n2 (i := 84) rfl rfl⟩, fun _ => ⟨rfl, rfl, (by decide +kernel)⟩⟩
theorem flX_165 : am_flok "MilkHorse" (165, 5, 2, true, true) := ⟨(R_5, F_5, 4), rfl, rfl, by decide, rfl, Or.inr ⟨rfl, am_n2 (i := 82) rfl rfl⟩, fun _ => ⟨rfl, rfl, (by decide +kernel)⟩⟩
theorem flX_168 : am_flok "MilkHorse" (168, 5, 0, true, false) := ⟨(R_5, F_5, 4), rfl, rfl, by decide, rfl, Or.inr ⟨rfl, am_n2 (i := 78) rfl rfl⟩, fun h => absurd h (by decide)⟩
theorem flX_177 : am_flok "MilkHorse" (177, 2, 0, true, false) := ⟨(R_2, F_2, 7), rfl, rfl, by decide, rfl, Or.inr ⟨rfl, am_n1 (i := 216) rfl rfl⟩, fun h => absurd h (by decide)⟩
theorem flX_180 : am_flok "MilkHorse" (180, 2, 1, true, false) := ⟨(R_2, F_2, 7), rfl, rfl, by decide, rfl, Or.inr ⟨rfl, am_n1 (i := 218) rfl rfl⟩, fun h => absurd h (by decide)⟩
theorem flX_183 : am_flok "MilkHorse" (183, 2, 2, true, false) := ⟨(R_2, F_2, 7), rfl, rfl, by decide, rfl, Or.inr ⟨rfl, am_n1 (i := 220) rfl rfl⟩, fun h => absurd h (by decide)⟩
theorem flX_186 : am_flok "MilkHorse" (186, 2, 3, true, false) := ⟨(R_2, F_2, 7), rfl, rfl, by decide, rfl, Or.inr ⟨rfl, am_n1 (i := 222) rfl rfl⟩, fun h => absurd h (by decide)⟩
theorem flX_189 : am_flok "MilkHorse" (189, 2, 4, true, true) := ⟨(R_2, F_2, 7), rfl, rfl, by decide, rfl, Or.inr ⟨rfl, am_n1 (i := 224) rfl rfl⟩, fun _ => ⟨rfl, rfl, (by decide +kernel)⟩⟩
theorem flX_192 : am_flok "MilkHorse" (192, 2, 5, true, true) := ⟨(R_2, F_2, 7), rfl, rfl, by decide, rfl, Or.inr ⟨rfl, am_n1 (i := 226) rfl rfl⟩, fun _ => ⟨rfl, rfl, (by decide +kernel)⟩⟩
theorem flX_195 : am_flok "MilkHorse" (195, 1, 4, true, true) := ⟨(R_1, F_1, 5), rfl, rfl, by decide, rfl, Or.inr ⟨rfl, am_n2 (i := 16) rfl rfl⟩, fun _ => ⟨rfl, rfl, (by decide +kernel)⟩⟩
theorem flX_212 : am_flok "MilkHorse" (212, 9, 13, true, true) := ⟨(R_9, F_9, 17), rfl, rfl, by decide, rfl, Or.inr ⟨rfl, am_n1 (i := 166) rfl rfl⟩, fun _ => ⟨rfl, rfl, (by decide +kernel)⟩⟩
theorem flX_225 : am_flok "MilkHorse" (225, 1, 1, true, true) := ⟨(R_1, F_1, 5), rfl, rfl, by decide, rfl, Or.inr ⟨rfl, am_n2 (i := 12) rfl rfl⟩, fun _ => ⟨rfl, rfl, (by decide +kernel)⟩⟩
theorem flX_228 : am_flok "MilkHorse" (228, 7, 3, true, true) := ⟨(R_7, F_7, 4), rfl, rfl, by decide, rfl, Or.inr ⟨rfl, am_n2 (i := 41) rfl rfl⟩, fun _ => ⟨rfl, rfl, (by decide +kernel)⟩⟩
theorem flX_232 : am_flok "MilkHorse" (232, 7, 0, true, true) := ⟨(R_7, F_7, 4), rfl, rfl, by decide, rfl, Or.inr ⟨rfl, am_n2 (i := 35) rfl rfl⟩, fun _ => ⟨rfl, rfl, (by decide +kernel)⟩⟩
theorem flX_235 : am_flok "MilkHorse" (235, 7, 1, true, true) := ⟨(R_7, F_7, 4), rfl, rfl, by decide, rfl, Or.inr ⟨rfl, am_n2 (i := 37) rfl rfl⟩, fun _ => ⟨rfl, rfl, (by decide +kernel)⟩⟩
theorem flX_238 : am_flok "MilkHorse" (238, 7, 2, true, true) := ⟨(R_7, F_7, 4), rfl, rfl, by decide, rfl, Or.inr ⟨rfl, am_n2 (i := 39) rfl rfl⟩, fun _ => ⟨rfl, rfl, (by decide +kernel)⟩⟩
theorem flX_243 : am_flok "MilkHorse" (243, 3, 3, true, true) := ⟨(R_3, F_3, 4), rfl, rfl, by decide, rfl, Or.inr ⟨rfl, am_n1 (i := 63) rfl rfl⟩, fun _ => ⟨rfl, rfl, (by decide +kernel)⟩⟩
theorem flX_244 : am_flok "MilkHorse" (244, 4, 7, true, true) := ⟨(R_4, F_4, 8), rfl, rfl, by decide, rfl, Or.inr ⟨rfl, am_n1 (i := 117) rfl rfl⟩, fun _ => ⟨rfl, rfl, (by decide +kernel)⟩⟩
theorem flX_261 : am_flok "MilkHorse" (261, 0, 2, true, true) := ⟨(R_0, F_0, 3), rfl, rfl, by decide, rfl, Or.inr ⟨rfl, am_n2 (i := 61) rfl rfl⟩, fun _ => ⟨rfl, rfl, (by decide +kernel)⟩⟩
theorem flX_289 : am_flok "MilkHorse" (289, 5, 1, true, true) := ⟨(R_5, F_5, 4), rfl, rfl, by decide, rfl, Or.inr ⟨rfl, am_n2 (i := 80) rfl rfl⟩, fun _ => ⟨rfl, rfl, (by decide +kernel)⟩⟩
theorem flX_305 : am_flok "MilkHorse" (305, 4, 3, true, true) := ⟨(R_4, F_4, 8), rfl, rfl, by decide, rfl, Or.inr ⟨rfl, am_n1 (i := 105) rfl rfl⟩, fun _ => ⟨rfl, rfl, (by decide +kernel)⟩⟩
theorem flX_308 : am_flok "MilkHorse" (308, 8, 4, true, true) := ⟨(R_8, F_8, 5), rfl, rfl, by decide, rfl, Or.inr ⟨rfl, am_n1 (i := 36) rfl rfl⟩, fun _ => ⟨rfl, rfl, (by decide +kernel)⟩⟩
theorem flX_314 : am_flok "MilkHorse" (314, 6, 2, true, true) := ⟨(R_6, F_6, 3), rfl, rfl, by decide, rfl, Or.inr ⟨rfl, am_n1 (i := 82) rfl rfl⟩, fun _ => ⟨rfl, rfl, (by decide +kernel)⟩⟩
theorem flX_393 : am_flok "MilkHorse" (393, 4, 2, true, false) := ⟨(R_4, F_4, 8), rfl, rfl, by decide, rfl, Or.inr ⟨rfl, am_n1 (i := 103) rfl rfl⟩, fun h => absurd h (by decide)⟩
theorem flX_395 : am_flok "MilkHorse" (395, 2, 6, true, true) := ⟨(R_2, F_2, 7), rfl, rfl, by decide, rfl, Or.inr ⟨rfl, am_n1 (i := 228) rfl rfl⟩, fun _ => ⟨rfl, rfl, (by decide +kernel)⟩⟩
theorem flX_407 : am_flok "MilkHorse" (407, 9, 15, true, true) := ⟨(R_9, F_9, 17), rfl, rfl, by decide, rfl, Or.inr ⟨rfl, am_n1 (i := 171) rfl rfl⟩, fun _ => ⟨rfl, rfl, (by decide +kernel)⟩⟩
theorem flX_412 : am_flok "MilkHorse" (412, 0, 0, true, false) := ⟨(R_0, F_0, 3), rfl, rfl, by decide, rfl, Or.inr ⟨rfl, am_n2 (i := 58) rfl rfl⟩, fun h => absurd h (by decide)⟩
theorem flX_414 : am_flok "MilkHorse" (414, 9, 3, true, false) := ⟨(R_9, F_9, 17), rfl, rfl, by decide, rfl, Or.inr ⟨rfl, am_n1 (i := 148) rfl rfl⟩, fun h => absurd h (by decide)⟩
def flX : List (Nat × Nat × Nat × Bool × Bool) := [(14, 10, 0, false, false), (18, 10, 1, false, false), (21, 10, 2, false, false), (27, 10, 3, false, false), (34, 10, 4, false, false), (41, 10, 5, false, false), (45, 10, 6, false, false), (51, 10, 7, false, false), (58, 10, 8, false, false), (65, 10, 9, false, false), (69, 10, 10, false, false), (72, 10, 11, false, false), (78, 10, 12, false, false), (85, 10, 13, false, false), (89, 10, 14, false, false), (95, 10, 15, false, false), (99, 10, 16, false, true), (129, 4, 0, true, false), (132, 4, 1, true, false), (138, 4, 4, true, true), (141, 4, 5, true, true), (144, 4, 6, true, true), (158, 5, 3, true, true), (165, 5, 2, true, true), (168, 5, 0, true, false), (177, 2, 0, true, false), (180, 2, 1, true, false), (183, 2, 2, true, false), (186, 2, 3, true, false), (189, 2, 4, true, true), (192, 2, 5, true, true), (195, 1, 4, true, true), (212, 9, 13, true, true), (225, 1, 1, true, true), (228, 7, 3, true, true), (232, 7, 0, true, true), (235, 7, 1, true, true), (238, 7, 2, true, true), (243, 3, 3, true, true), (244, 4, 7, true, true), (261, 0, 2, true, true), (289, 5, 1, true, true), (305, 4, 3, true, true), (308, 8, 4, true, true), (314, 6, 2, true, true), (393, 4, 2, true, false), (395, 2, 6, true, true), (407, 9, 15, true, true), (412, 0, 0, true, false), (414, 9, 3, true, false)]
theorem flX_ok : ∀ q ∈ flX, am_flok "MilkHorse" q := (List.forall_mem_cons.mpr ⟨flX_14, (List.forall_mem_cons.mpr ⟨flX_18, (List.forall_mem_cons.mpr ⟨flX_21, (List.forall_mem_cons.mpr ⟨flX_27, (List.forall_mem_cons.mpr ⟨flX_34, (List.forall_mem_cons.mpr ⟨flX_41, (List.forall_mem_cons.mpr ⟨flX_45, (List.forall_mem_cons.mpr ⟨flX_51, (List.forall_mem_cons.mpr ⟨flX_58, (List.forall_mem_cons.mpr ⟨flX_65, (List.forall_mem_cons.mpr ⟨flX_69, (List.forall_mem_cons.mpr ⟨flX_72, (List.forall_mem_cons.mpr ⟨flX_78, (List.forall_mem_cons.mpr ⟨flX_85, (List.forall_mem_cons.mpr ⟨flX_89, (List.forall_mem_cons.mpr ⟨flX_95, (List.forall_mem_cons.mpr ⟨flX_99, (List.forall_mem_cons.mpr ⟨flX_129, (List.forall_mem_cons.mpr ⟨flX_132, (List.forall_mem_cons.mpr ⟨flX_138, (List.forall_mem_cons.mpr ⟨flX_141, (List.forall_mem_cons.mpr ⟨flX_144, (List.forall_mem_cons.mpr ⟨flX_158, (List.forall_mem_cons.mpr ⟨flX_165, (List.forall_mem_cons.mpr ⟨flX_168, (List.forall_mem_cons.mpr ⟨flX_177, (List.forall_mem_cons.mpr ⟨flX_180, (List.forall_mem_cons.mpr ⟨flX_183, (List.forall_mem_cons.mpr ⟨flX_186, (List.forall_mem_cons.mpr ⟨flX_189, (List.forall_mem_cons.mpr ⟨flX_192, (List.forall_mem_cons.mpr ⟨flX_195, (List.forall_mem_cons.mpr ⟨flX_212, (List.forall_mem_cons.mpr ⟨flX_225, (List.forall_mem_cons.mpr ⟨flX_228, (List.forall_mem_cons.mpr ⟨flX_232, (List.forall_mem_cons.mpr ⟨flX_235, (List.forall_mem_cons.mpr ⟨flX_238, (List.forall_mem_cons.mpr ⟨flX_243, (List.forall_mem_cons.mpr ⟨flX_244, (List.forall_mem_cons.mpr ⟨flX_261, (List.forall_mem_cons.mpr ⟨flX_289, (List.forall_mem_cons.mpr ⟨flX_305, (List.forall_mem_cons.mpr ⟨flX_308, (List.forall_mem_cons.mpr ⟨flX_314, (List.forall_mem_cons.mpr ⟨flX_393, (List.forall_mem_cons.mpr ⟨flX_395, (List.forall_mem_cons.mpr ⟨flX_407, (List.forall_mem_cons.mpr ⟨flX_412, (List.forall_mem_cons.mpr ⟨flX_414, (fun _ h => absurd h List.not_mem_nil)⟩)⟩)⟩)⟩)⟩)⟩)⟩)⟩)⟩)⟩)⟩)⟩)⟩)⟩)⟩)⟩)⟩)⟩)⟩)⟩)⟩)⟩)⟩)⟩)⟩)⟩)⟩)⟩)⟩)⟩)⟩)⟩)⟩)⟩)⟩)⟩)⟩)⟩)⟩)⟩)⟩)⟩)⟩)⟩)⟩)⟩)⟩)⟩)⟩)⟩)
def kiX : List (Nat × Int32) := [(271, 1103515245), (285, (-2147483648))]
theorem kiX_ok : ∀ q ∈ kiX, Cond.constant "MilkHorse" q.1 q.2 ∈ am_tbl := (List.forall_mem_cons.mpr ⟨am_m4 (i := 4) rfl rfl, (List.forall_mem_cons.mpr ⟨am_m4 (i := 37) rfl rfl, (fun _ h => absurd h List.not_mem_nil)⟩)⟩)
def klX : List (Nat × Int64) := [(259, (-9223372036854775806)), (269, 2), (315, 17), (328, 31)]
theorem klX_ok : ∀ q ∈ klX, Cond.constantLong "MilkHorse" q.1 q.2 ∈ am_tbl := (List.forall_mem_cons.mpr ⟨am_m3 (i := 226) rfl rfl, (List.forall_mem_cons.mpr ⟨am_m3 (i := 239) rfl rfl, (List.forall_mem_cons.mpr ⟨am_m4 (i := 64) rfl rfl, (List.forall_mem_cons.mpr ⟨am_m4 (i := 69) rfl rfl, (fun _ h => absurd h List.not_mem_nil)⟩)⟩)⟩)⟩)
theorem inX : Cond.initialized "MilkHorse" ∈ am_tbl := am_m1 (i := 1) rfl rfl
theorem flM_7 : am_flok "MilkHorseModel" (7, 11, 0, false, false) := ⟨(R_11, F_11, 52), rfl, rfl, by decide, rfl, Or.inl ⟨rfl, am_m4 (i := 104) rfl rfl⟩, fun h => absurd h (by decide)⟩
theorem flM_13 : am_flok "MilkHorseModel" (13, 11, 1, false, false) := ⟨(R_11, F_11, 52), rfl, rfl, by decide, rfl, Or.inl ⟨rfl, am_m4 (i := 105) rfl rfl⟩, fun h => absurd h (by decide)⟩
theorem flM_16 : am_flok "MilkHorseModel" (16, 11, 2, false, false) := ⟨(R_11, F_11, 52), rfl, rfl, by decide, rfl, Or.inl ⟨rfl, am_m4 (i := 106) rfl rfl⟩, fun h => absurd h (by decide)⟩
theorem flM_19 : am_flok "MilkHorseModel" (19, 11, 3, false, false) := ⟨(R_11, F_11, 52), rfl, rfl, by decide, rfl, Or.inl ⟨rfl, am_m4 (i := 107) rfl rfl⟩, fun h => absurd h (by decide)⟩
theorem flM_22 : am_flok "MilkHorseModel" (22, 11, 5, false, false) := ⟨(R_11, F_11, 52), rfl, rfl, by decide, rfl, Or.inl ⟨rfl, am_m4 (i := 109) rfl rfl⟩, fun h => absurd h (by decide)⟩
theorem flM_25 : am_flok "MilkHorseModel" (25, 11, 6, false, false) := ⟨(R_11, F_11, 52), rfl, rfl, by decide, rfl, Or.inl ⟨rfl, am_m4 (i := 110) rfl rfl⟩, fun h => absurd h (by decide)⟩
theorem flM_28 : am_flok "MilkHorseModel" (28, 11, 8, false, false) := ⟨(R_11, F_11, 52), rfl, rfl, by decide, rfl, Or.inl ⟨rfl, am_m4 (i := 112) rfl rfl⟩, fun h => absurd h (by decide)⟩
theorem flM_31 : am_flok "MilkHorseModel" (31, 11, 9, false, false) := ⟨(R_11, F_11, 52), rfl, rfl, by decide, rfl, Or.inl ⟨rfl, am_m4 (i := 113) rfl rfl⟩, fun h => absurd h (by decide)⟩
theorem flM_34 : am_flok "MilkHorseModel" (34, 11, 10, false, false) := ⟨(R_11, F_11, 52), rfl, rfl, by decide, rfl, Or.inl ⟨rfl, am_m4 (i := 114) rfl rfl⟩, fun h => absurd h (by decide)⟩
theorem flM_37 : am_flok "MilkHorseModel" (37, 11, 11, false, false) := ⟨(R_11, F_11, 52), rfl, rfl, by decide, rfl, Or.inl ⟨rfl, am_m4 (i := 115) rfl rfl⟩, fun h => absurd h (by decide)⟩
theorem flM_40 : am_flok "MilkHorseModel" (40, 11, 12, false, false) := ⟨(R_11, F_11, 52), rfl, rfl, by decide, rfl, Or.inl ⟨rfl, am_m4 (i := 116) rfl rfl⟩, fun h => absurd h (by decide)⟩
theorem flM_43 : am_flok "MilkHorseModel" (43, 11, 29, false, false) := ⟨(R_11, F_11, 52), rfl, rfl, by decide, rfl, Or.inl ⟨rfl, am_m4 (i := 133) rfl rfl⟩, fun h => absurd h (by decide)⟩
theorem flM_46 : am_flok "MilkHorseModel" (46, 11, 30, false, false) := ⟨(R_11, F_11, 52), rfl, rfl, by decide, rfl, Or.inl ⟨rfl, am_m4 (i := 134) rfl rfl⟩, fun h => absurd h (by decide)⟩
theorem flM_49 : am_flok "MilkHorseModel" (49, 11, 31, false, false) := ⟨(R_11, F_11, 52), rfl, rfl, by decide, rfl, Or.inl ⟨rfl, am_m4 (i := 135) rfl rfl⟩, fun h => absurd h (by decide)⟩
theorem flM_52 : am_flok "MilkHorseModel" (52, 11, 32, false, false) := ⟨(R_11, F_11, 52), rfl, rfl, by decide, rfl, Or.inl ⟨rfl, am_m4 (i := 136) rfl rfl⟩, fun h => absurd h (by decide)⟩
theorem flM_55 : am_flok "MilkHorseModel" (55, 11, 33, false, false) := ⟨(R_11, F_11, 52), rfl, rfl, by decide, rfl, Or.inl ⟨rfl, am_m4 (i := 137) rfl rfl⟩, fun h => absurd h (by decide)⟩
theorem flM_58 : am_flok "MilkHorseModel" (58, 11, 34, false, false) := ⟨(R_11, F_11, 52), rfl, rfl, by decide, rfl, Or.inl ⟨rfl, am_m4 (i := 138) rfl rfl⟩, fun h => absurd h (by decide)⟩
theorem flM_61 : am_flok "MilkHorseModel" (61, 11, 35, false, false) := ⟨(R_11, F_11, 52), rfl, rfl, by decide, rfl, Or.inl ⟨rfl, am_m4 (i := 139) rfl rfl⟩, fun h => absurd h (by decide)⟩
theorem flM_64 : am_flok "MilkHorseModel" (64, 11, 36, false, false) := ⟨(R_11, F_11, 52), rfl, rfl, by decide, rfl, Or.inl ⟨rfl, am_m4 (i := 140) rfl rfl⟩, fun h => absurd h (by decide)⟩
theorem flM_67 : am_flok "MilkHorseModel" (67, 11, 37, false, false) := ⟨(R_11, F_11, 52), rfl, rfl, by decide, rfl, Or.inl ⟨rfl, am_m4 (i := 141) rfl rfl⟩, fun h => absurd h (by decide)⟩
theorem flM_70 : am_flok "MilkHorseModel" (70, 11, 41, false, false) := ⟨(R_11, F_11, 52), rfl, rfl, by decide, rfl, Or.inl ⟨rfl, am_m4 (i := 145) rfl rfl⟩, fun h => absurd h (by decide)⟩
theorem flM_73 : am_flok "MilkHorseModel" (73, 11, 43, false, false) := ⟨(R_11, F_11, 52), rfl, rfl, by decide, rfl, Or.inl ⟨rfl, am_m4 (i := 147) rfl rfl⟩, fun h => absurd h (by decide)⟩
theorem flM_76 : am_flok "MilkHorseModel" (76, 11, 44, false, false) := ⟨(R_11, F_11, 52), rfl, rfl, by decide, rfl, Or.inl ⟨rfl, am_m4 (i := 148) rfl rfl⟩, fun h => absurd h (by decide)⟩
theorem flM_79 : am_flok "MilkHorseModel" (79, 11, 45, false, false) := ⟨(R_11, F_11, 52), rfl, rfl, by decide, rfl, Or.inl ⟨rfl, am_m4 (i := 149) rfl rfl⟩, fun h => absurd h (by decide)⟩
theorem flM_82 : am_flok "MilkHorseModel" (82, 11, 46, false, false) := ⟨(R_11, F_11, 52), rfl, rfl, by decide, rfl, Or.inl ⟨rfl, am_m4 (i := 150) rfl rfl⟩, fun h => absurd h (by decide)⟩
theorem flM_86 : am_flok "MilkHorseModel" (86, 11, 47, false, false) := ⟨(R_11, F_11, 52), rfl, rfl, by decide, rfl, Or.inl ⟨rfl, am_m4 (i := 151) rfl rfl⟩, fun h => absurd h (by decide)⟩
theorem flM_89 : am_flok "MilkHorseModel" (89, 11, 48, false, false) := ⟨(R_11, F_11, 52), rfl, rfl, by decide, rfl, Or.inl ⟨rfl, am_m4 (i := 152) rfl rfl⟩, fun h => absurd h (by decide)⟩
theorem flM_92 : am_flok "MilkHorseModel" (92, 11, 49, false, false) := ⟨(R_11, F_11, 52), rfl, rfl, by decide, rfl, Or.inl ⟨rfl, am_m4 (i := 153) rfl rfl⟩, fun h => absurd h (by decide)⟩
theorem flM_95 : am_flok "MilkHorseModel" (95, 11, 50, false, false) := ⟨(R_11, F_11, 52), rfl, rfl, by decide, rfl, Or.inl ⟨rfl, am_m4 (i := 154) rfl rfl⟩, fun h => absurd h (by decide)⟩
theorem flM_112 : am_flok "MilkHorseModel" (112, 11, 4, false, true) := ⟨(R_11, F_11, 52), rfl, rfl, by decide, rfl, Or.inl ⟨rfl, am_m4 (i := 108) rfl rfl⟩, fun _ => ⟨rfl, rfl, (by decide +kernel)⟩⟩
theorem flM_138 : am_flok "MilkHorseModel" (138, 11, 7, false, true) := ⟨(R_11, F_11, 52), rfl, rfl, by decide, rfl, Or.inl ⟨rfl, am_m4 (i := 111) rfl rfl⟩, fun _ => ⟨rfl, rfl, (by decide +kernel)⟩⟩
theorem flM_151 : am_flok "MilkHorseModel" (151, 11, 13, false, true) := ⟨(R_11, F_11, 52), rfl, rfl, by decide, rfl, Or.inl ⟨rfl, am_m4 (i := 117) rfl rfl⟩, fun _ => ⟨rfl, rfl, (by decide +kernel)⟩⟩
theorem flM_154 : am_flok "MilkHorseModel" (154, 11, 14, false, true) := ⟨(R_11, F_11, 52), rfl, rfl, by decide, rfl, Or.inl ⟨rfl, am_m4 (i := 118) rfl rfl⟩, fun _ => ⟨rfl, rfl, (by decide +kernel)⟩⟩
theorem flM_157 : am_flok "MilkHorseModel" (157, 11, 15, false, true) := ⟨(R_11, F_11, 52), rfl, rfl, by decide, rfl, Or.inl ⟨rfl, am_m4 (i := 119) rfl rfl⟩, fun _ => ⟨rfl, rfl, (by decide +kernel)⟩⟩
theorem flM_160 : am_flok "MilkHorseModel" (160, 11, 23, false, true) := ⟨(R_11, F_11, 52), rfl, rfl, by decide, rfl, Or.inl ⟨rfl, am_m4 (i := 127) rfl rfl⟩, fun _ => ⟨rfl, rfl, (by decide +kernel)⟩⟩
theorem flM_167 : am_flok "MilkHorseModel" (167, 11, 17, false, true) := ⟨(R_11, F_11, 52), rfl, rfl, by decide, rfl, Or.inl ⟨rfl, am_m4 (i := 121) rfl rfl⟩, fun _ => ⟨rfl, rfl, (by decide +kernel)⟩⟩
theorem flM_170 : am_flok "MilkHorseModel" (170, 11, 16, false, true) := ⟨(R_11, F_11, 52), rfl, rfl, by decide, rfl, Or.inl ⟨rfl, am_m4 (i := 120) rfl rfl⟩, fun _ => ⟨rfl, rfl, (by decide +kernel)⟩⟩
theorem flM_176 : am_flok "MilkHorseModel" (176, 11, 26, false, true) := ⟨(R_11, F_11, 52), rfl, rfl, by decide, rfl, Or.inl ⟨rfl, am_m4 (i := 130) rfl rfl⟩, fun _ => ⟨rfl, rfl, (by decide +kernel)⟩⟩
theorem flM_179 : am_flok "MilkHorseModel" (179, 11, 27, false, true) := ⟨(R_11, F_11, 52), rfl, rfl, by decide, rfl, Or.inl ⟨rfl, am_m4 (i := 131) rfl rfl⟩, fun _ => ⟨rfl, rfl, (by decide +kernel)⟩⟩
theorem flM_182 : am_flok "MilkHorseModel" (182, 11, 19, false, true) := ⟨(R_11, F_11, 52), rfl, rfl, by decide, rfl, Or.inl ⟨rfl, am_m4 (i := 123) rfl rfl⟩, fun _ => ⟨rfl, rfl, (by decide +kernel)⟩⟩
theorem flM_185 : am_flok "MilkHorseModel" (185, 11, 20, false, true) := ⟨(R_11, F_11, 52), rfl, rfl, by decide, rfl, Or.inl ⟨rfl, am_m4 (i := 124) rfl rfl⟩, fun _ => ⟨rfl, rfl, (by decide +kernel)⟩⟩
theorem flM_188 : am_flok "MilkHorseModel" (188, 11, 22, false, true) := ⟨(R_11, F_11, 52), rfl, rfl, by decide, rfl, Or.inl ⟨rfl, am_m4 (i := 126) rfl rfl⟩, fun _ => ⟨rfl, rfl, (by decide +kernel)⟩⟩
theorem flM_192 : am_flok "MilkHorseModel" (192, 11, 18, false, true) := ⟨(R_11, F_11, 52), rfl, rfl, by decide, rfl, Or.inl ⟨rfl, am_m4 (i := 122) rfl rfl⟩, fun _ => ⟨rfl, rfl, (by decide +kernel)⟩⟩
theorem flM_198 : am_flok "MilkHorseModel" (198, 11, 25, false, true) := ⟨(R_11, F_11, 52), rfl, rfl, by decide, rfl, Or.inl ⟨rfl, am_m4 (i := 129) rfl rfl⟩, fun _ => ⟨rfl, rfl, (by decide +kernel)⟩⟩
theorem flM_204 : am_flok "MilkHorseModel" (204, 11, 21, false, true) := ⟨(R_11, F_11, 52), rfl, rfl, by decide, rfl, Or.inl ⟨rfl, am_m4 (i := 125) rfl rfl⟩, fun _ => ⟨rfl, rfl, (by decide +kernel)⟩⟩
theorem flM_207 : am_flok "MilkHorseModel" (207, 11, 24, false, true) := ⟨(R_11, F_11, 52), rfl, rfl, by decide, rfl, Or.inl ⟨rfl, am_m4 (i := 128) rfl rfl⟩, fun _ => ⟨rfl, rfl, (by decide +kernel)⟩⟩
theorem flM_227 : am_flok "MilkHorseModel" (227, 11, 28, false, true) := ⟨(R_11, F_11, 52), rfl, rfl, by decide, rfl, Or.inl ⟨rfl, am_m4 (i := 132) rfl rfl⟩, fun _ => ⟨rfl, rfl, (by decide +kernel)⟩⟩
theorem flM_269 : am_flok "MilkHorseModel" (269, 11, 38, false, true) := ⟨(R_11, F_11, 52), rfl, rfl, by decide, rfl, Or.inl ⟨rfl, am_m4 (i := 142) rfl rfl⟩, fun _ => ⟨rfl, rfl, (by decide +kernel)⟩⟩
theorem flM_272 : am_flok "MilkHorseModel" (272, 11, 39, false, true) := ⟨(R_11, F_11, 52), rfl, rfl, by decide, rfl, Or.inl ⟨rfl, am_m4 (i := 143) rfl rfl⟩, fun _ => ⟨rfl, rfl, (by decide +kernel)⟩⟩
theorem flM_275 : am_flok "MilkHorseModel" (275, 11, 40, false, true) := ⟨(R_11, F_11, 52), rfl, rfl, by decide, rfl, Or.inl ⟨rfl, am_m4 (i := 144) rfl rfl⟩, fun _ => ⟨rfl, rfl, (by decide +kernel)⟩⟩
theorem flM_305 : am_flok "MilkHorseModel" (305, 11, 42, false, true) := ⟨(R_11, F_11, 52), rfl, rfl, by decide, rfl, Or.inl ⟨rfl, am_m4 (i := 146) rfl rfl⟩, fun _ => ⟨rfl, rfl, (by decide +kernel)⟩⟩
theorem flM_343 : am_flok "MilkHorseModel" (343, 11, 51, false, true) := ⟨(R_11, F_11, 52), rfl, rfl, by decide, rfl, Or.inl ⟨rfl, am_m4 (i := 155) rfl rfl⟩, fun _ => ⟨rfl, rfl, (by decide +kernel)⟩⟩
def flM : List (Nat × Nat × Nat × Bool × Bool) := [(7, 11, 0, false, false), (13, 11, 1, false, false), (16, 11, 2, false, false), (19, 11, 3, false, false), (22, 11, 5, false, false), (25, 11, 6, false, false), (28, 11, 8, false, false), (31, 11, 9, false, false), (34, 11, 10, false, false), (37, 11, 11, false, false), (40, 11, 12, false, false), (43, 11, 29, false, false), (46, 11, 30, false, false), (49, 11, 31, false, false), (52, 11, 32, false, false), (55, 11, 33, false, false), (58, 11, 34, false, false), (61, 11, 35, false, false), (64, 11, 36, false, false), (67, 11, 37, false, false), (70, 11, 41, false, false), (73, 11, 43, false, false), (76, 11, 44, false, false), (79, 11, 45, false, false), (82, 11, 46, false, false), (86, 11, 47, false, false), (89, 11, 48, false, false), (92, 11, 49, false, false), (95, 11, 50, false, false), (112, 11, 4, false, true), (138, 11, 7, false, true), (151, 11, 13, false, true), (154, 11, 14, false, true), (157, 11, 15, false, true), (160, 11, 23, false, true), (167, 11, 17, false, true), (170, 11, 16, false, true), (176, 11, 26, false, true), (179, 11, 27, false, true), (182, 11, 19, false, true), (185, 11, 20, false, true), (188, 11, 22, false, true), (192, 11, 18, false, true), (198, 11, 25, false, true), (204, 11, 21, false, true), (207, 11, 24, false, true), (227, 11, 28, false, true), (269, 11, 38, false, true), (272, 11, 39, false, true), (275, 11, 40, false, true), (305, 11, 42, false, true), (343, 11, 51, false, true)]
theorem flM_ok : ∀ q ∈ flM, am_flok "MilkHorseModel" q := (List.forall_mem_cons.mpr ⟨flM_7, (List.forall_mem_cons.mpr ⟨flM_13, (List.forall_mem_cons.mpr ⟨flM_16, (List.forall_mem_cons.mpr ⟨flM_19, (List.forall_mem_cons.mpr ⟨flM_22, (List.forall_mem_cons.mpr ⟨flM_25, (List.forall_mem_cons.mpr ⟨flM_28, (List.forall_mem_cons.mpr ⟨flM_31, (List.forall_mem_cons.mpr ⟨flM_34, (List.forall_mem_cons.mpr ⟨flM_37, (List.forall_mem_cons.mpr ⟨flM_40, (List.forall_mem_cons.mpr ⟨flM_43, (List.forall_mem_cons.mpr ⟨flM_46, (List.forall_mem_cons.mpr ⟨flM_49, (List.forall_mem_cons.mpr ⟨flM_52, (List.forall_mem_cons.mpr ⟨flM_55, (List.forall_mem_cons.mpr ⟨flM_58, (List.forall_mem_cons.mpr ⟨flM_61, (List.forall_mem_cons.mpr ⟨flM_64, (List.forall_mem_cons.mpr ⟨flM_67, (List.forall_mem_cons.mpr ⟨flM_70, (List.forall_mem_cons.mpr ⟨flM_73, (List.forall_mem_cons.mpr ⟨flM_76, (List.forall_mem_cons.mpr ⟨flM_79, (List.forall_mem_cons.mpr ⟨flM_82, (List.forall_mem_cons.mpr ⟨flM_86, (List.forall_mem_cons.mpr ⟨flM_89, (List.forall_mem_cons.mpr ⟨flM_92, (List.forall_mem_cons.mpr ⟨flM_95, (List.forall_mem_cons.mpr ⟨flM_112, (List.forall_mem_cons.mpr ⟨flM_138, (List.forall_mem_cons.mpr ⟨flM_151, (List.forall_mem_cons.mpr ⟨flM_154, (List.forall_mem_cons.mpr ⟨flM_157, (List.forall_mem_cons.mpr ⟨flM_160, (List.forall_mem_cons.mpr ⟨flM_167, (List.forall_mem_cons.mpr ⟨flM_170, (List.forall_mem_cons.mpr ⟨flM_176, (List.forall_mem_cons.mpr ⟨flM_179, (List.forall_mem_cons.mpr ⟨flM_182, (List.forall_mem_cons.mpr ⟨flM_185, (List.forall_mem_cons.mpr ⟨flM_188, (List.forall_mem_cons.mpr ⟨flM_192, (List.forall_mem_cons.mpr ⟨flM_198, (List.forall_mem_cons.mpr ⟨flM_204, (List.forall_mem_cons.mpr ⟨flM_207, (List.forall_mem_cons.mpr ⟨flM_227, (List.forall_mem_cons.mpr ⟨flM_269, (List.forall_mem_cons.mpr ⟨flM_272, (List.forall_mem_cons.mpr ⟨flM_275, (List.forall_mem_cons.mpr ⟨flM_305, (List.forall_mem_cons.mpr ⟨flM_343, (fun _ h => absurd h List.not_mem_nil)⟩)⟩)⟩)⟩)⟩)⟩)⟩)⟩)⟩)⟩)⟩)⟩)⟩)⟩)⟩)⟩)⟩)⟩)⟩)⟩)⟩)⟩)⟩)⟩)⟩)⟩)⟩)⟩)⟩)⟩)⟩)⟩)⟩)⟩)⟩)⟩)⟩)⟩)⟩)⟩)⟩)⟩)⟩)⟩)⟩)⟩)⟩)⟩)⟩)⟩)⟩)⟩)
def kiM : List (Nat × Int32) := [(339, 1103515245), (353, (-2147483648))]
theorem kiM_ok : ∀ q ∈ kiM, Cond.constant "MilkHorseModel" q.1 q.2 ∈ am_tbl := (List.forall_mem_cons.mpr ⟨am_m6 (i := 96) rfl rfl, (List.forall_mem_cons.mpr ⟨am_m6 (i := 121) rfl rfl, (fun _ h => absurd h List.not_mem_nil)⟩)⟩)
def klM : List (Nat × Int64) := [(98, (-9223372036854775808)), (360, 31), (362, 17)]
theorem klM_ok : ∀ q ∈ klM, Cond.constantLong "MilkHorseModel" q.1 q.2 ∈ am_tbl := (List.forall_mem_cons.mpr ⟨am_m6 (i := 87) rfl rfl, (List.forall_mem_cons.mpr ⟨am_m6 (i := 147) rfl rfl, (List.forall_mem_cons.mpr ⟨am_m6 (i := 146) rfl rfl, (fun _ h => absurd h List.not_mem_nil)⟩)⟩)⟩)
theorem inM : Cond.initialized "MilkHorseModel" ∈ am_tbl := am_m1 (i := 12) rfl rfl
theorem flH_9 : am_flok "MilkHorse$Chances" (9, 0, 0, false, false) := ⟨(R_0, F_0, 3), rfl, rfl, by decide, rfl, Or.inl ⟨rfl, am_m2 (i := 57) rfl rfl⟩, fun h => absurd h (by decide)⟩
theorem flH_15 : am_flok "MilkHorse$Chances" (15, 0, 1, false, false) := ⟨(R_0, F_0, 3), rfl, rfl, by decide, rfl, Or.inl ⟨rfl, am_m2 (i := 59) rfl rfl⟩, fun h => absurd h (by decide)⟩
theorem flH_19 : am_flok "MilkHorse$Chances" (19, 0, 2, false, true) := ⟨(R_0, F_0, 3), rfl, rfl, by decide, rfl, Or.inl ⟨rfl, am_m2 (i := 60) rfl rfl⟩, fun _ => ⟨rfl, rfl, (by decide +kernel)⟩⟩
def flH : List (Nat × Nat × Nat × Bool × Bool) := [(9, 0, 0, false, false), (15, 0, 1, false, false), (19, 0, 2, false, true)]
theorem flH_ok : ∀ q ∈ flH, am_flok "MilkHorse$Chances" q := (List.forall_mem_cons.mpr ⟨flH_9, (List.forall_mem_cons.mpr ⟨flH_15, (List.forall_mem_cons.mpr ⟨flH_19, (fun _ h => absurd h List.not_mem_nil)⟩)⟩)⟩)
def kiH : List (Nat × Int32) := []
theorem kiH_ok : ∀ q ∈ kiH, Cond.constant "MilkHorse$Chances" q.1 q.2 ∈ am_tbl := (fun _ h => absurd h List.not_mem_nil)
def klH : List (Nat × Int64) := []
theorem klH_ok : ∀ q ∈ klH, Cond.constantLong "MilkHorse$Chances" q.1 q.2 ∈ am_tbl := (fun _ h => absurd h List.not_mem_nil)
theorem inH : Cond.initialized "MilkHorse$Chances" ∈ am_tbl := am_m1 (i := 10) rfl rfl
theorem flO_9 : am_flok "MilkHorse$Choice" (9, 1, 0, false, true) := ⟨(R_1, F_1, 5), rfl, rfl, by decide, rfl, Or.inl ⟨rfl, am_m2 (i := 10) rfl rfl⟩, fun _ => ⟨rfl, rfl, (by decide +kernel)⟩⟩
theorem flO_15 : am_flok "MilkHorse$Choice" (15, 1, 1, false, true) := ⟨(R_1, F_1, 5), rfl, rfl, by decide, rfl, Or.inl ⟨rfl, am_m2 (i := 11) rfl rfl⟩, fun _ => ⟨rfl, rfl, (by decide +kernel)⟩⟩
theorem flO_18 : am_flok "MilkHorse$Choice" (18, 1, 2, false, true) := ⟨(R_1, F_1, 5), rfl, rfl, by decide, rfl, Or.inl ⟨rfl, am_m2 (i := 13) rfl rfl⟩, fun _ => ⟨rfl, rfl, (by decide +kernel)⟩⟩
theorem flO_21 : am_flok "MilkHorse$Choice" (21, 1, 3, false, true) := ⟨(R_1, F_1, 5), rfl, rfl, by decide, rfl, Or.inl ⟨rfl, am_m2 (i := 14) rfl rfl⟩, fun _ => ⟨rfl, rfl, (by decide +kernel)⟩⟩
theorem flO_24 : am_flok "MilkHorse$Choice" (24, 1, 4, false, true) := ⟨(R_1, F_1, 5), rfl, rfl, by decide, rfl, Or.inl ⟨rfl, am_m2 (i := 15) rfl rfl⟩, fun _ => ⟨rfl, rfl, (by decide +kernel)⟩⟩
def flO : List (Nat × Nat × Nat × Bool × Bool) := [(9, 1, 0, false, true), (15, 1, 1, false, true), (18, 1, 2, false, true), (21, 1, 3, false, true), (24, 1, 4, false, true)]
theorem flO_ok : ∀ q ∈ flO, am_flok "MilkHorse$Choice" q := (List.forall_mem_cons.mpr ⟨flO_9, (List.forall_mem_cons.mpr ⟨flO_15, (List.forall_mem_cons.mpr ⟨flO_18, (List.forall_mem_cons.mpr ⟨flO_21, (List.forall_mem_cons.mpr ⟨flO_24, (fun _ h => absurd h List.not_mem_nil)⟩)⟩)⟩)⟩)⟩)
def kiO : List (Nat × Int32) := []
theorem kiO_ok : ∀ q ∈ kiO, Cond.constant "MilkHorse$Choice" q.1 q.2 ∈ am_tbl := (fun _ h => absurd h List.not_mem_nil)
def klO : List (Nat × Int64) := []
theorem klO_ok : ∀ q ∈ klO, Cond.constantLong "MilkHorse$Choice" q.1 q.2 ∈ am_tbl := (fun _ h => absurd h List.not_mem_nil)
theorem inO : Cond.initialized "MilkHorse$Choice" ∈ am_tbl := am_m1 (i := 8) rfl rfl
theorem flY_9 : am_flok "MilkHorse$Day" (9, 2, 0, false, false) := ⟨(R_2, F_2, 7), rfl, rfl, by decide, rfl, Or.inl ⟨rfl, am_m1 (i := 215) rfl rfl⟩, fun h => absurd h (by decide)⟩
theorem flY_15 : am_flok "MilkHorse$Day" (15, 2, 1, false, false) := ⟨(R_2, F_2, 7), rfl, rfl, by decide, rfl, Or.inl ⟨rfl, am_m1 (i := 217) rfl rfl⟩, fun h => absurd h (by decide)⟩
theorem flY_18 : am_flok "MilkHorse$Day" (18, 2, 2, false, false) := ⟨(R_2, F_2, 7), rfl, rfl, by decide, rfl, Or.inl ⟨rfl, am_m1 (i := 219) rfl rfl⟩, fun h => absurd h (by decide)⟩
theorem flY_21 : am_flok "MilkHorse$Day" (21, 2, 3, false, false) := ⟨(R_2, F_2, 7), rfl, rfl, by decide, rfl, Or.inl ⟨rfl, am_m1 (i := 221) rfl rfl⟩, fun h => absurd h (by decide)⟩
theorem flY_24 : am_flok "MilkHorse$Day" (24, 2, 4, false, true) := ⟨(R_2, F_2, 7), rfl, rfl, by decide, rfl, Or.inl ⟨rfl, am_m1 (i := 223) rfl rfl⟩, fun _ => ⟨rfl, rfl, (by decide +kernel)⟩⟩
theorem flY_28 : am_flok "MilkHorse$Day" (28, 2, 5, false, true) := ⟨(R_2, F_2, 7), rfl, rfl, by decide, rfl, Or.inl ⟨rfl, am_m1 (i := 225) rfl rfl⟩, fun _ => ⟨rfl, rfl, (by decide +kernel)⟩⟩
theorem flY_31 : am_flok "MilkHorse$Day" (31, 2, 6, false, true) := ⟨(R_2, F_2, 7), rfl, rfl, by decide, rfl, Or.inl ⟨rfl, am_m1 (i := 227) rfl rfl⟩, fun _ => ⟨rfl, rfl, (by decide +kernel)⟩⟩
theorem flY_45 : am_flok "MilkHorse$Day" (45, 9, 4, true, true) := ⟨(R_9, F_9, 17), rfl, rfl, by decide, rfl, Or.inr ⟨rfl, am_n1 (i := 150) rfl rfl⟩, fun _ => ⟨rfl, rfl, (by decide +kernel)⟩⟩
theorem flY_50 : am_flok "MilkHorse$Day" (50, 9, 5, true, true) := ⟨(R_9, F_9, 17), rfl, rfl, by decide, rfl, Or.inr ⟨rfl, am_n1 (i := 152) rfl rfl⟩, fun _ => ⟨rfl, rfl, (by decide +kernel)⟩⟩
theorem flY_53 : am_flok "MilkHorse$Day" (53, 9, 7, true, true) := ⟨(R_9, F_9, 17), rfl, rfl, by decide, rfl, Or.inr ⟨rfl, am_n1 (i := 156) rfl rfl⟩, fun _ => ⟨rfl, rfl, (by decide +kernel)⟩⟩
theorem flY_56 : am_flok "MilkHorse$Day" (56, 9, 8, true, true) := ⟨(R_9, F_9, 17), rfl, rfl, by decide, rfl, Or.inr ⟨rfl, am_n1 (i := 158) rfl rfl⟩, fun _ => ⟨rfl, rfl, (by decide +kernel)⟩⟩
theorem flY_59 : am_flok "MilkHorse$Day" (59, 9, 12, true, true) := ⟨(R_9, F_9, 17), rfl, rfl, by decide, rfl, Or.inr ⟨rfl, am_n1 (i := 162) rfl rfl⟩, fun _ => ⟨rfl, rfl, (by decide +kernel)⟩⟩
theorem flY_62 : am_flok "MilkHorse$Day" (62, 9, 0, true, false) := ⟨(R_9, F_9, 17), rfl, rfl, by decide, rfl, Or.inr ⟨rfl, am_n1 (i := 142) rfl rfl⟩, fun h => absurd h (by decide)⟩
theorem flY_65 : am_flok "MilkHorse$Day" (65, 9, 1, true, false) := ⟨(R_9, F_9, 17), rfl, rfl, by decide, rfl, Or.inr ⟨rfl, am_n1 (i := 144) rfl rfl⟩, fun h => absurd h (by decide)⟩
theorem flY_68 : am_flok "MilkHorse$Day" (68, 9, 2, true, false) := ⟨(R_9, F_9, 17), rfl, rfl, by decide, rfl, Or.inr ⟨rfl, am_n1 (i := 146) rfl rfl⟩, fun h => absurd h (by decide)⟩
theorem flY_71 : am_flok "MilkHorse$Day" (71, 9, 13, true, true) := ⟨(R_9, F_9, 17), rfl, rfl, by decide, rfl, Or.inr ⟨rfl, am_n1 (i := 165) rfl rfl⟩, fun _ => ⟨rfl, rfl, (by decide +kernel)⟩⟩
theorem flY_74 : am_flok "MilkHorse$Day" (74, 9, 14, true, true) := ⟨(R_9, F_9, 17), rfl, rfl, by decide, rfl, Or.inr ⟨rfl, am_n1 (i := 168) rfl rfl⟩, fun _ => ⟨rfl, rfl, (by decide +kernel)⟩⟩
theorem flY_77 : am_flok "MilkHorse$Day" (77, 9, 15, true, true) := ⟨(R_9, F_9, 17), rfl, rfl, by decide, rfl, Or.inr ⟨rfl, am_n1 (i := 170) rfl rfl⟩, fun _ => ⟨rfl, rfl, (by decide +kernel)⟩⟩
theorem flY_80 : am_flok "MilkHorse$Day" (80, 9, 16, true, true) := ⟨(R_9, F_9, 17), rfl, rfl, by decide, rfl, Or.inr ⟨rfl, am_n1 (i := 173) rfl rfl⟩, fun _ => ⟨rfl, rfl, (by decide +kernel)⟩⟩
theorem flY_83 : am_flok "MilkHorse$Day" (83, 9, 6, true, true) := ⟨(R_9, F_9, 17), rfl, rfl, by decide, rfl, Or.inr ⟨rfl, am_n1 (i := 154) rfl rfl⟩, fun _ => ⟨rfl, rfl, (by decide +kernel)⟩⟩
def flY : List (Nat × Nat × Nat × Bool × Bool) := [(9, 2, 0, false, false), (15, 2, 1, false, false), (18, 2, 2, false, false), (21, 2, 3, false, false), (24, 2, 4, false, true), (28, 2, 5, false, true), (31, 2, 6, false, true), (45, 9, 4, true, true), (50, 9, 5, true, true), (53, 9, 7, true, true), (56, 9, 8, true, true), (59, 9, 12, true, true), (62, 9, 0, true, false), (65, 9, 1, true, false), (68, 9, 2, true, false), (71, 9, 13, true, true), (74, 9, 14, true, true), (77, 9, 15, true, true), (80, 9, 16, true, true), (83, 9, 6, true, true)]
theorem flY_ok : ∀ q ∈ flY, am_flok "MilkHorse$Day" q := (List.forall_mem_cons.mpr ⟨flY_9, (List.forall_mem_cons.mpr ⟨flY_15, (List.forall_mem_cons.mpr ⟨flY_18, (List.forall_mem_cons.mpr ⟨flY_21, (List.forall_mem_cons.mpr ⟨flY_24, (List.forall_mem_cons.mpr ⟨flY_28, (List.forall_mem_cons.mpr ⟨flY_31, (List.forall_mem_cons.mpr ⟨flY_45, (List.forall_mem_cons.mpr ⟨flY_50, (List.forall_mem_cons.mpr ⟨flY_53, (List.forall_mem_cons.mpr ⟨flY_56, (List.forall_mem_cons.mpr ⟨flY_59, (List.forall_mem_cons.mpr ⟨flY_62, (List.forall_mem_cons.mpr ⟨flY_65, (List.forall_mem_cons.mpr ⟨flY_68, (List.forall_mem_cons.mpr ⟨flY_71, (List.forall_mem_cons.mpr ⟨flY_74, (List.forall_mem_cons.mpr ⟨flY_77, (List.forall_mem_cons.mpr ⟨flY_80, (List.forall_mem_cons.mpr ⟨flY_83, (fun _ h => absurd h List.not_mem_nil)⟩)⟩)⟩)⟩)⟩)⟩)⟩)⟩)⟩)⟩)⟩)⟩)⟩)⟩)⟩)⟩)⟩)⟩)⟩)⟩)
def kiY : List (Nat × Int32) := []
theorem kiY_ok : ∀ q ∈ kiY, Cond.constant "MilkHorse$Day" q.1 q.2 ∈ am_tbl := (fun _ h => absurd h List.not_mem_nil)
def klY : List (Nat × Int64) := []
theorem klY_ok : ∀ q ∈ klY, Cond.constantLong "MilkHorse$Day" q.1 q.2 ∈ am_tbl := (fun _ h => absurd h List.not_mem_nil)
theorem inY : Cond.initialized "MilkHorse$Day" ∈ am_tbl := am_m1 (i := 7) rfl rfl
theorem flE_9 : am_flok "MilkHorse$Events" (9, 3, 0, false, false) := ⟨(R_3, F_3, 4), rfl, rfl, by decide, rfl, Or.inl ⟨rfl, am_m1 (i := 55) rfl rfl⟩, fun h => absurd h (by decide)⟩
theorem flE_15 : am_flok "MilkHorse$Events" (15, 3, 1, false, false) := ⟨(R_3, F_3, 4), rfl, rfl, by decide, rfl, Or.inl ⟨rfl, am_m1 (i := 57) rfl rfl⟩, fun h => absurd h (by decide)⟩
theorem flE_18 : am_flok "MilkHorse$Events" (18, 3, 2, false, false) := ⟨(R_3, F_3, 4), rfl, rfl, by decide, rfl, Or.inl ⟨rfl, am_m1 (i := 59) rfl rfl⟩, fun h => absurd h (by decide)⟩
theorem flE_21 : am_flok "MilkHorse$Events" (21, 3, 3, false, true) := ⟨(R_3, F_3, 4), rfl, rfl, by decide, rfl, Or.inl ⟨rfl, am_m1 (i := 61) rfl rfl⟩, fun _ => ⟨rfl, rfl, (by decide +kernel)⟩⟩
def flE : List (Nat × Nat × Nat × Bool × Bool) := [(9, 3, 0, false, false), (15, 3, 1, false, false), (18, 3, 2, false, false), (21, 3, 3, false, true)]
theorem flE_ok : ∀ q ∈ flE, am_flok "MilkHorse$Events" q := (List.forall_mem_cons.mpr ⟨flE_9, (List.forall_mem_cons.mpr ⟨flE_15, (List.forall_mem_cons.mpr ⟨flE_18, (List.forall_mem_cons.mpr ⟨flE_21, (fun _ h => absurd h List.not_mem_nil)⟩)⟩)⟩)⟩)
def kiE : List (Nat × Int32) := []
theorem kiE_ok : ∀ q ∈ kiE, Cond.constant "MilkHorse$Events" q.1 q.2 ∈ am_tbl := (fun _ h => absurd h List.not_mem_nil)
def klE : List (Nat × Int64) := []
theorem klE_ok : ∀ q ∈ klE, Cond.constantLong "MilkHorse$Events" q.1 q.2 ∈ am_tbl := (fun _ h => absurd h List.not_mem_nil)
theorem inE : Cond.initialized "MilkHorse$Events" ∈ am_tbl := am_m1 (i := 3) rfl rfl
theorem flP_9 : am_flok "MilkHorse$Plan" (9, 4, 0, false, false) := ⟨(R_4, F_4, 8), rfl, rfl, by decide, rfl, Or.inl ⟨rfl, am_m1 (i := 96) rfl rfl⟩, fun h => absurd h (by decide)⟩
theorem flP_15 : am_flok "MilkHorse$Plan" (15, 4, 1, false, false) := ⟨(R_4, F_4, 8), rfl, rfl, by decide, rfl, Or.inl ⟨rfl, am_m1 (i := 99) rfl rfl⟩, fun h => absurd h (by decide)⟩
theorem flP_18 : am_flok "MilkHorse$Plan" (18, 4, 2, false, false) := ⟨(R_4, F_4, 8), rfl, rfl, by decide, rfl, Or.inl ⟨rfl, am_m1 (i := 102) rfl rfl⟩, fun h => absurd h (by decide)⟩
theorem flP_21 : am_flok "MilkHorse$Plan" (21, 4, 3, false, true) := ⟨(R_4, F_4, 8), rfl, rfl, by decide, rfl, Or.inl ⟨rfl, am_m1 (i := 104) rfl rfl⟩, fun _ => ⟨rfl, rfl, (by decide +kernel)⟩⟩
theorem flP_25 : am_flok "MilkHorse$Plan" (25, 4, 4, false, true) := ⟨(R_4, F_4, 8), rfl, rfl, by decide, rfl, Or.inl ⟨rfl, am_m1 (i := 106) rfl rfl⟩, fun _ => ⟨rfl, rfl, (by decide +kernel)⟩⟩
theorem flP_28 : am_flok "MilkHorse$Plan" (28, 4, 5, false, true) := ⟨(R_4, F_4, 8), rfl, rfl, by decide, rfl, Or.inl ⟨rfl, am_m1 (i := 109) rfl rfl⟩, fun _ => ⟨rfl, rfl, (by decide +kernel)⟩⟩
theorem flP_31 : am_flok "MilkHorse$Plan" (31, 4, 6, false, true) := ⟨(R_4, F_4, 8), rfl, rfl, by decide, rfl, Or.inl ⟨rfl, am_m1 (i := 112) rfl rfl⟩, fun _ => ⟨rfl, rfl, (by decide +kernel)⟩⟩
theorem flP_34 : am_flok "MilkHorse$Plan" (34, 4, 7, false, true) := ⟨(R_4, F_4, 8), rfl, rfl, by decide, rfl, Or.inl ⟨rfl, am_m1 (i := 115) rfl rfl⟩, fun _ => ⟨rfl, rfl, (by decide +kernel)⟩⟩
def flP : List (Nat × Nat × Nat × Bool × Bool) := [(9, 4, 0, false, false), (15, 4, 1, false, false), (18, 4, 2, false, false), (21, 4, 3, false, true), (25, 4, 4, false, true), (28, 4, 5, false, true), (31, 4, 6, false, true), (34, 4, 7, false, true)]
theorem flP_ok : ∀ q ∈ flP, am_flok "MilkHorse$Plan" q := (List.forall_mem_cons.mpr ⟨flP_9, (List.forall_mem_cons.mpr ⟨flP_15, (List.forall_mem_cons.mpr ⟨flP_18, (List.forall_mem_cons.mpr ⟨flP_21, (List.forall_mem_cons.mpr ⟨flP_25, (List.forall_mem_cons.mpr ⟨flP_28, (List.forall_mem_cons.mpr ⟨flP_31, (List.forall_mem_cons.mpr ⟨flP_34, (fun _ h => absurd h List.not_mem_nil)⟩)⟩)⟩)⟩)⟩)⟩)⟩)⟩)
def kiP : List (Nat × Int32) := []
theorem kiP_ok : ∀ q ∈ kiP, Cond.constant "MilkHorse$Plan" q.1 q.2 ∈ am_tbl := (fun _ h => absurd h List.not_mem_nil)
def klP : List (Nat × Int64) := []
theorem klP_ok : ∀ q ∈ klP, Cond.constantLong "MilkHorse$Plan" q.1 q.2 ∈ am_tbl := (fun _ h => absurd h List.not_mem_nil)
theorem inP : Cond.initialized "MilkHorse$Plan" ∈ am_tbl := am_m1 (i := 5) rfl rfl
theorem flG_9 : am_flok "MilkHorse$Sheet" (9, 5, 0, false, false) := ⟨(R_5, F_5, 4), rfl, rfl, by decide, rfl, Or.inl ⟨rfl, am_m2 (i := 77) rfl rfl⟩, fun h => absurd h (by decide)⟩
theorem flG_15 : am_flok "MilkHorse$Sheet" (15, 5, 1, false, true) := ⟨(R_5, F_5, 4), rfl, rfl, by decide, rfl, Or.inl ⟨rfl, am_m2 (i := 79) rfl rfl⟩, fun _ => ⟨rfl, rfl, (by decide +kernel)⟩⟩
theorem flG_19 : am_flok "MilkHorse$Sheet" (19, 5, 2, false, true) := ⟨(R_5, F_5, 4), rfl, rfl, by decide, rfl, Or.inl ⟨rfl, am_m2 (i := 81) rfl rfl⟩, fun _ => ⟨rfl, rfl, (by decide +kernel)⟩⟩
theorem flG_22 : am_flok "MilkHorse$Sheet" (22, 5, 3, false, true) := ⟨(R_5, F_5, 4), rfl, rfl, by decide, rfl, Or.inl ⟨rfl, am_m2 (i := 83) rfl rfl⟩, fun _ => ⟨rfl, rfl, (by decide +kernel)⟩⟩
def flG : List (Nat × Nat × Nat × Bool × Bool) := [(9, 5, 0, false, false), (15, 5, 1, false, true), (19, 5, 2, false, true), (22, 5, 3, false, true)]
theorem flG_ok : ∀ q ∈ flG, am_flok "MilkHorse$Sheet" q := (List.forall_mem_cons.mpr ⟨flG_9, (List.forall_mem_cons.mpr ⟨flG_15, (List.forall_mem_cons.mpr ⟨flG_19, (List.forall_mem_cons.mpr ⟨flG_22, (fun _ h => absurd h List.not_mem_nil)⟩)⟩)⟩)⟩)
def kiG : List (Nat × Int32) := []
theorem kiG_ok : ∀ q ∈ kiG, Cond.constant "MilkHorse$Sheet" q.1 q.2 ∈ am_tbl := (fun _ h => absurd h List.not_mem_nil)
def klG : List (Nat × Int64) := []
theorem klG_ok : ∀ q ∈ klG, Cond.constantLong "MilkHorse$Sheet" q.1 q.2 ∈ am_tbl := (fun _ h => absurd h List.not_mem_nil)
theorem inG : Cond.initialized "MilkHorse$Sheet" ∈ am_tbl := am_m1 (i := 11) rfl rfl
theorem flS_9 : am_flok "MilkHorse$Sights" (9, 6, 0, false, false) := ⟨(R_6, F_6, 3), rfl, rfl, by decide, rfl, Or.inl ⟨rfl, am_m1 (i := 79) rfl rfl⟩, fun h => absurd h (by decide)⟩
theorem flS_15 : am_flok "MilkHorse$Sights" (15, 6, 1, false, false) := ⟨(R_6, F_6, 3), rfl, rfl, by decide, rfl, Or.inl ⟨rfl, am_m1 (i := 80) rfl rfl⟩, fun h => absurd h (by decide)⟩
theorem flS_18 : am_flok "MilkHorse$Sights" (18, 6, 2, false, true) := ⟨(R_6, F_6, 3), rfl, rfl, by decide, rfl, Or.inl ⟨rfl, am_m1 (i := 81) rfl rfl⟩, fun _ => ⟨rfl, rfl, (by decide +kernel)⟩⟩
def flS : List (Nat × Nat × Nat × Bool × Bool) := [(9, 6, 0, false, false), (15, 6, 1, false, false), (18, 6, 2, false, true)]
theorem flS_ok : ∀ q ∈ flS, am_flok "MilkHorse$Sights" q := (List.forall_mem_cons.mpr ⟨flS_9, (List.forall_mem_cons.mpr ⟨flS_15, (List.forall_mem_cons.mpr ⟨flS_18, (fun _ h => absurd h List.not_mem_nil)⟩)⟩)⟩)
def kiS : List (Nat × Int32) := []
theorem kiS_ok : ∀ q ∈ kiS, Cond.constant "MilkHorse$Sights" q.1 q.2 ∈ am_tbl := (fun _ h => absurd h List.not_mem_nil)
def klS : List (Nat × Int64) := []
theorem klS_ok : ∀ q ∈ klS, Cond.constantLong "MilkHorse$Sights" q.1 q.2 ∈ am_tbl := (fun _ h => absurd h List.not_mem_nil)
theorem inS : Cond.initialized "MilkHorse$Sights" ∈ am_tbl := am_m1 (i := 4) rfl rfl
theorem flQ_9 : am_flok "MilkHorse$Spared" (9, 7, 0, false, true) := ⟨(R_7, F_7, 4), rfl, rfl, by decide, rfl, Or.inl ⟨rfl, am_m2 (i := 34) rfl rfl⟩, fun _ => ⟨rfl, rfl, (by decide +kernel)⟩⟩
theorem flQ_15 : am_flok "MilkHorse$Spared" (15, 7, 1, false, true) := ⟨(R_7, F_7, 4), rfl, rfl, by decide, rfl, Or.inl ⟨rfl, am_m2 (i := 36) rfl rfl⟩, fun _ => ⟨rfl, rfl, (by decide +kernel)⟩⟩
theorem flQ_18 : am_flok "MilkHorse$Spared" (18, 7, 2, false, true) := ⟨(R_7, F_7, 4), rfl, rfl, by decide, rfl, Or.inl ⟨rfl, am_m2 (i := 38) rfl rfl⟩, fun _ => ⟨rfl, rfl, (by decide +kernel)⟩⟩
theorem flQ_21 : am_flok "MilkHorse$Spared" (21, 7, 3, false, true) := ⟨(R_7, F_7, 4), rfl, rfl, by decide, rfl, Or.inl ⟨rfl, am_m2 (i := 40) rfl rfl⟩, fun _ => ⟨rfl, rfl, (by decide +kernel)⟩⟩
def flQ : List (Nat × Nat × Nat × Bool × Bool) := [(9, 7, 0, false, true), (15, 7, 1, false, true), (18, 7, 2, false, true), (21, 7, 3, false, true)]
theorem flQ_ok : ∀ q ∈ flQ, am_flok "MilkHorse$Spared" q := (List.forall_mem_cons.mpr ⟨flQ_9, (List.forall_mem_cons.mpr ⟨flQ_15, (List.forall_mem_cons.mpr ⟨flQ_18, (List.forall_mem_cons.mpr ⟨flQ_21, (fun _ h => absurd h List.not_mem_nil)⟩)⟩)⟩)⟩)
def kiQ : List (Nat × Int32) := []
theorem kiQ_ok : ∀ q ∈ kiQ, Cond.constant "MilkHorse$Spared" q.1 q.2 ∈ am_tbl := (fun _ h => absurd h List.not_mem_nil)
def klQ : List (Nat × Int64) := []
theorem klQ_ok : ∀ q ∈ klQ, Cond.constantLong "MilkHorse$Spared" q.1 q.2 ∈ am_tbl := (fun _ h => absurd h List.not_mem_nil)
theorem inQ : Cond.initialized "MilkHorse$Spared" ∈ am_tbl := am_m1 (i := 9) rfl rfl
theorem flT_9 : am_flok "MilkHorse$Text" (9, 8, 0, false, false) := ⟨(R_8, F_8, 5), rfl, rfl, by decide, rfl, Or.inl ⟨rfl, am_m1 (i := 31) rfl rfl⟩, fun h => absurd h (by decide)⟩
theorem flT_15 : am_flok "MilkHorse$Text" (15, 8, 4, false, true) := ⟨(R_8, F_8, 5), rfl, rfl, by decide, rfl, Or.inl ⟨rfl, am_m1 (i := 35) rfl rfl⟩, fun _ => ⟨rfl, rfl, (by decide +kernel)⟩⟩
theorem flT_19 : am_flok "MilkHorse$Text" (19, 8, 1, false, false) := ⟨(R_8, F_8, 5), rfl, rfl, by decide, rfl, Or.inl ⟨rfl, am_m1 (i := 32) rfl rfl⟩, fun h => absurd h (by decide)⟩
theorem flT_22 : am_flok "MilkHorse$Text" (22, 8, 2, false, false) := ⟨(R_8, F_8, 5), rfl, rfl, by decide, rfl, Or.inl ⟨rfl, am_m1 (i := 33) rfl rfl⟩, fun h => absurd h (by decide)⟩
theorem flT_25 : am_flok "MilkHorse$Text" (25, 8, 3, false, false) := ⟨(R_8, F_8, 5), rfl, rfl, by decide, rfl, Or.inl ⟨rfl, am_m1 (i := 34) rfl rfl⟩, fun h => absurd h (by decide)⟩
def flT : List (Nat × Nat × Nat × Bool × Bool) := [(9, 8, 0, false, false), (15, 8, 4, false, true), (19, 8, 1, false, false), (22, 8, 2, false, false), (25, 8, 3, false, false)]
theorem flT_ok : ∀ q ∈ flT, am_flok "MilkHorse$Text" q := (List.forall_mem_cons.mpr ⟨flT_9, (List.forall_mem_cons.mpr ⟨flT_15, (List.forall_mem_cons.mpr ⟨flT_19, (List.forall_mem_cons.mpr ⟨flT_22, (List.forall_mem_cons.mpr ⟨flT_25, (fun _ h => absurd h List.not_mem_nil)⟩)⟩)⟩)⟩)⟩)
def kiT : List (Nat × Int32) := []
theorem kiT_ok : ∀ q ∈ kiT, Cond.constant "MilkHorse$Text" q.1 q.2 ∈ am_tbl := (fun _ h => absurd h List.not_mem_nil)
def klT : List (Nat × Int64) := []
theorem klT_ok : ∀ q ∈ klT, Cond.constantLong "MilkHorse$Text" q.1 q.2 ∈ am_tbl := (fun _ h => absurd h List.not_mem_nil)
theorem inT : Cond.initialized "MilkHorse$Text" ∈ am_tbl := am_m1 (i := 2) rfl rfl
theorem flW_9 : am_flok "MilkHorse$Walk" (9, 9, 0, false, false) := ⟨(R_9, F_9, 17), rfl, rfl, by decide, rfl, Or.inl ⟨rfl, am_m1 (i := 141) rfl rfl⟩, fun h => absurd h (by decide)⟩
theorem flW_15 : am_flok "MilkHorse$Walk" (15, 9, 1, false, false) := ⟨(R_9, F_9, 17), rfl, rfl, by decide, rfl, Or.inl ⟨rfl, am_m1 (i := 143) rfl rfl⟩, fun h => absurd h (by decide)⟩
theorem flW_18 : am_flok "MilkHorse$Walk" (18, 9, 2, false, false) := ⟨(R_9, F_9, 17), rfl, rfl, by decide, rfl, Or.inl ⟨rfl, am_m1 (i := 145) rfl rfl⟩, fun h => absurd h (by decide)⟩
theorem flW_21 : am_flok "MilkHorse$Walk" (21, 9, 3, false, false) := ⟨(R_9, F_9, 17), rfl, rfl, by decide, rfl, Or.inl ⟨rfl, am_m1 (i := 147) rfl rfl⟩, fun h => absurd h (by decide)⟩
theorem flW_28 : am_flok "MilkHorse$Walk" (28, 4, 7, true, true) := ⟨(R_4, F_4, 8), rfl, rfl, by decide, rfl, Or.inr ⟨rfl, am_n1 (i := 116) rfl rfl⟩, fun _ => ⟨rfl, rfl, (by decide +kernel)⟩⟩
theorem flW_41 : am_flok "MilkHorse$Walk" (41, 4, 4, true, true) := ⟨(R_4, F_4, 8), rfl, rfl, by decide, rfl, Or.inr ⟨rfl, am_n1 (i := 107) rfl rfl⟩, fun _ => ⟨rfl, rfl, (by decide +kernel)⟩⟩
theorem flW_48 : am_flok "MilkHorse$Walk" (48, 9, 4, false, true) := ⟨(R_9, F_9, 17), rfl, rfl, by decide, rfl, Or.inl ⟨rfl, am_m1 (i := 149) rfl rfl⟩, fun _ => ⟨rfl, rfl, (by decide +kernel)⟩⟩
theorem flW_51 : am_flok "MilkHorse$Walk" (51, 4, 0, true, false) := ⟨(R_4, F_4, 8), rfl, rfl, by decide, rfl, Or.inr ⟨rfl, am_n1 (i := 97) rfl rfl⟩, fun h => absurd h (by decide)⟩
theorem flW_66 : am_flok "MilkHorse$Walk" (66, 4, 1, true, false) := ⟨(R_4, F_4, 8), rfl, rfl, by decide, rfl, Or.inr ⟨rfl, am_n1 (i := 100) rfl rfl⟩, fun h => absurd h (by decide)⟩
theorem flW_73 : am_flok "MilkHorse$Walk" (73, 9, 5, false, true) := ⟨(R_9, F_9, 17), rfl, rfl, by decide, rfl, Or.inl ⟨rfl, am_m1 (i := 151) rfl rfl⟩, fun _ => ⟨rfl, rfl, (by decide +kernel)⟩⟩
theorem flW_76 : am_flok "MilkHorse$Walk" (76, 4, 6, true, true) := ⟨(R_4, F_4, 8), rfl, rfl, by decide, rfl, Or.inr ⟨rfl, am_n1 (i := 113) rfl rfl⟩, fun _ => ⟨rfl, rfl, (by decide +kernel)⟩⟩
theorem flW_77 : am_flok "MilkHorse$Walk" (77, 9, 6, false, true) := ⟨(R_9, F_9, 17), rfl, rfl, by decide, rfl, Or.inl ⟨rfl, am_m1 (i := 153) rfl rfl⟩, fun _ => ⟨rfl, rfl, (by decide +kernel)⟩⟩
theorem flW_80 : am_flok "MilkHorse$Walk" (80, 9, 7, false, true) := ⟨(R_9, F_9, 17), rfl, rfl, by decide, rfl, Or.inl ⟨rfl, am_m1 (i := 155) rfl rfl⟩, fun _ => ⟨rfl, rfl, (by decide +kernel)⟩⟩
theorem flW_83 : am_flok "MilkHorse$Walk" (83, 9, 8, false, true) := ⟨(R_9, F_9, 17), rfl, rfl, by decide, rfl, Or.inl ⟨rfl, am_m1 (i := 157) rfl rfl⟩, fun _ => ⟨rfl, rfl, (by decide +kernel)⟩⟩
theorem flW_86 : am_flok "MilkHorse$Walk" (86, 9, 9, false, true) := ⟨(R_9, F_9, 17), rfl, rfl, by decide, rfl, Or.inl ⟨rfl, am_m1 (i := 159) rfl rfl⟩, fun _ => ⟨rfl, rfl, (by decide +kernel)⟩⟩
theorem flW_89 : am_flok "MilkHorse$Walk" (89, 9, 10, false, true) := ⟨(R_9, F_9, 17), rfl, rfl, by decide, rfl, Or.inl ⟨rfl, am_m1 (i := 160) rfl rfl⟩, fun _ => ⟨rfl, rfl, (by decide +kernel)⟩⟩
theorem flW_93 : am_flok "MilkHorse$Walk" (93, 9, 13, false, true) := ⟨(R_9, F_9, 17), rfl, rfl, by decide, rfl, Or.inl ⟨rfl, am_m1 (i := 164) rfl rfl⟩, fun _ => ⟨rfl, rfl, (by decide +kernel)⟩⟩
theorem flW_96 : am_flok "MilkHorse$Walk" (96, 9, 14, false, true) := ⟨(R_9, F_9, 17), rfl, rfl, by decide, rfl, Or.inl ⟨rfl, am_m1 (i := 167) rfl rfl⟩, fun _ => ⟨rfl, rfl, (by decide +kernel)⟩⟩
theorem flW_99 : am_flok "MilkHorse$Walk" (99, 9, 15, false, true) := ⟨(R_9, F_9, 17), rfl, rfl, by decide, rfl, Or.inl ⟨rfl, am_m1 (i := 169) rfl rfl⟩, fun _ => ⟨rfl, rfl, (by decide +kernel)⟩⟩
theorem flW_102 : am_flok "MilkHorse$Walk" (102, 9, 16, false, true) := ⟨(R_9, F_9, 17), rfl, rfl, by decide, rfl, Or.inl ⟨rfl, am_m1 (i := 172) rfl rfl⟩, fun _ => ⟨rfl, rfl, (by decide +kernel)⟩⟩
theorem flW_105 : am_flok "MilkHorse$Walk" (105, 9, 11, false, true) := ⟨(R_9, F_9, 17), rfl, rfl, by decide, rfl, Or.inl ⟨rfl, am_m1 (i := 161) rfl rfl⟩, fun _ => ⟨rfl, rfl, (by decide +kernel)⟩⟩
theorem flW_108 : am_flok "MilkHorse$Walk" (108, 3, 3, true, true) := ⟨(R_3, F_3, 4), rfl, rfl, by decide, rfl, Or.inr ⟨rfl, am_n1 (i := 62) rfl rfl⟩, fun _ => ⟨rfl, rfl, (by decide +kernel)⟩⟩
theorem flW_113 : am_flok "MilkHorse$Walk" (113, 3, 1, true, false) := ⟨(R_3, F_3, 4), rfl, rfl, by decide, rfl, Or.inr ⟨rfl, am_n1 (i := 58) rfl rfl⟩, fun h => absurd h (by decide)⟩
theorem flW_116 : am_flok "MilkHorse$Walk" (116, 3, 0, true, false) := ⟨(R_3, F_3, 4), rfl, rfl, by decide, rfl, Or.inr ⟨rfl, am_n1 (i := 56) rfl rfl⟩, fun h => absurd h (by decide)⟩
theorem flW_119 : am_flok "MilkHorse$Walk" (119, 3, 2, true, false) := ⟨(R_3, F_3, 4), rfl, rfl, by decide, rfl, Or.inr ⟨rfl, am_n1 (i := 60) rfl rfl⟩, fun h => absurd h (by decide)⟩
theorem flW_146 : am_flok "MilkHorse$Walk" (146, 9, 12, false, true) := ⟨(R_9, F_9, 17), rfl, rfl, by decide, rfl, Or.inl ⟨rfl, am_m1 (i := 163) rfl rfl⟩, fun _ => ⟨rfl, rfl, (by decide +kernel)⟩⟩
theorem flW_152 : am_flok "MilkHorse$Walk" (152, 4, 5, true, true) := ⟨(R_4, F_4, 8), rfl, rfl, by decide, rfl, Or.inr ⟨rfl, am_n1 (i := 110) rfl rfl⟩, fun _ => ⟨rfl, rfl, (by decide +kernel)⟩⟩
def flW : List (Nat × Nat × Nat × Bool × Bool) := [(9, 9, 0, false, false), (15, 9, 1, false, false), (18, 9, 2, false, false), (21, 9, 3, false, false), (28, 4, 7, true, true), (41, 4, 4, true, true), (48, 9, 4, false, true), (51, 4, 0, true, false), (66, 4, 1, true, false), (73, 9, 5, false, true), (76, 4, 6, true, true), (77, 9, 6, false, true), (80, 9, 7, false, true), (83, 9, 8, false, true), (86, 9, 9, false, true), (89, 9, 10, false, true), (93, 9, 13, false, true), (96, 9, 14, false, true), (99, 9, 15, false, true), (102, 9, 16, false, true), (105, 9, 11, false, true), (108, 3, 3, true, true), (113, 3, 1, true, false), (116, 3, 0, true, false), (119, 3, 2, true, false), (146, 9, 12, false, true), (152, 4, 5, true, true)]
theorem flW_ok : ∀ q ∈ flW, am_flok "MilkHorse$Walk" q := (List.forall_mem_cons.mpr ⟨flW_9, (List.forall_mem_cons.mpr ⟨flW_15, (List.forall_mem_cons.mpr ⟨flW_18, (List.forall_mem_cons.mpr ⟨flW_21, (List.forall_mem_cons.mpr ⟨flW_28, (List.forall_mem_cons.mpr ⟨flW_41, (List.forall_mem_cons.mpr ⟨flW_48, (List.forall_mem_cons.mpr ⟨flW_51, (List.forall_mem_cons.mpr ⟨flW_66, (List.forall_mem_cons.mpr ⟨flW_73, (List.forall_mem_cons.mpr ⟨flW_76, (List.forall_mem_cons.mpr ⟨flW_77, (List.forall_mem_cons.mpr ⟨flW_80, (List.forall_mem_cons.mpr ⟨flW_83, (List.forall_mem_cons.mpr ⟨flW_86, (List.forall_mem_cons.mpr ⟨flW_89, (List.forall_mem_cons.mpr ⟨flW_93, (List.forall_mem_cons.mpr ⟨flW_96, (List.forall_mem_cons.mpr ⟨flW_99, (List.forall_mem_cons.mpr ⟨flW_102, (List.forall_mem_cons.mpr ⟨flW_105, (List.forall_mem_cons.mpr ⟨flW_108, (List.forall_mem_cons.mpr ⟨flW_113, (List.forall_mem_cons.mpr ⟨flW_116, (List.forall_mem_cons.mpr ⟨flW_119, (List.forall_mem_cons.mpr ⟨flW_146, (List.forall_mem_cons.mpr ⟨flW_152, (fun _ h => absurd h List.not_mem_nil)⟩)⟩)⟩)⟩)⟩)⟩)⟩)⟩)⟩)⟩)⟩)⟩)⟩)⟩)⟩)⟩)⟩)⟩)⟩)⟩)⟩)⟩)⟩)⟩)⟩)⟩)⟩)
def kiW : List (Nat × Int32) := []
theorem kiW_ok : ∀ q ∈ kiW, Cond.constant "MilkHorse$Walk" q.1 q.2 ∈ am_tbl := (fun _ h => absurd h List.not_mem_nil)
def klW : List (Nat × Int64) := []
theorem klW_ok : ∀ q ∈ klW, Cond.constantLong "MilkHorse$Walk" q.1 q.2 ∈ am_tbl := (fun _ h => absurd h List.not_mem_nil)
theorem inW : Cond.initialized "MilkHorse$Walk" ∈ am_tbl := am_m1 (i := 6) rfl rfl
def flL : List (Nat × Nat × Nat × Bool × Bool) := []
theorem flL_ok : ∀ q ∈ flL, am_flok "MilkHorseLaw" q := (fun _ h => absurd h List.not_mem_nil)
def kiL : List (Nat × Int32) := []
theorem kiL_ok : ∀ q ∈ kiL, Cond.constant "MilkHorseLaw" q.1 q.2 ∈ am_tbl := (fun _ h => absurd h List.not_mem_nil)
def klL : List (Nat × Int64) := []
theorem klL_ok : ∀ q ∈ klL, Cond.constantLong "MilkHorseLaw" q.1 q.2 ∈ am_tbl := (fun _ h => absurd h List.not_mem_nil)
theorem inL : Cond.initialized "MilkHorseLaw" ∈ am_tbl := am_m1 (i := 0) rfl rfl
def flJI : List (Nat × Nat × Nat × Bool × Bool) := []
theorem flJI_ok : ∀ q ∈ flJI, am_flok "java/lang/Integer" q := (fun _ h => absurd h List.not_mem_nil)
def kiJI : List (Nat × Int32) := [(265, 1431655765), (266, 858993459), (267, 252645135)]
theorem kiJI_ok : ∀ q ∈ kiJI, Cond.constant "java/lang/Integer" q.1 q.2 ∈ am_tbl := (List.forall_mem_cons.mpr ⟨am_m3 (i := 135) rfl rfl, (List.forall_mem_cons.mpr ⟨am_m3 (i := 136) rfl rfl, (List.forall_mem_cons.mpr ⟨am_m3 (i := 137) rfl rfl, (fun _ h => absurd h List.not_mem_nil)⟩)⟩)⟩)
def klJI : List (Nat × Int64) := []
theorem klJI_ok : ∀ q ∈ klJI, Cond.constantLong "java/lang/Integer" q.1 q.2 ∈ am_tbl := (fun _ h => absurd h List.not_mem_nil)
theorem inJI : Cond.initialized "java/lang/Integer" ∈ am_tbl := am_m1 (i := 16) rfl rfl
def flJM : List (Nat × Nat × Nat × Bool × Bool) := []
theorem flJM_ok : ∀ q ∈ flJM, am_flok "java/lang/Math" q := (fun _ h => absurd h List.not_mem_nil)
def kiJM : List (Nat × Int32) := []
theorem kiJM_ok : ∀ q ∈ kiJM, Cond.constant "java/lang/Math" q.1 q.2 ∈ am_tbl := (fun _ h => absurd h List.not_mem_nil)
def klJM : List (Nat × Int64) := []
theorem klJM_ok : ∀ q ∈ klJM, Cond.constantLong "java/lang/Math" q.1 q.2 ∈ am_tbl := (fun _ h => absurd h List.not_mem_nil)
theorem inJM : Cond.initialized "java/lang/Math" ∈ am_tbl := am_m1 (i := 15) rfl rfl
def flJA : List (Nat × Nat × Nat × Bool × Bool) := []
theorem flJA_ok : ∀ q ∈ flJA, am_flok "java/util/Arrays" q := (fun _ h => absurd h List.not_mem_nil)
def kiJA : List (Nat × Int32) := []
theorem kiJA_ok : ∀ q ∈ kiJA, Cond.constant "java/util/Arrays" q.1 q.2 ∈ am_tbl := (fun _ h => absurd h List.not_mem_nil)
def klJA : List (Nat × Int64) := []
theorem klJA_ok : ∀ q ∈ klJA, Cond.constantLong "java/util/Arrays" q.1 q.2 ∈ am_tbl := (fun _ h => absurd h List.not_mem_nil)
theorem inJA : Cond.initialized "java/util/Arrays" ∈ am_tbl := am_m1 (i := 13) rfl rfl
def yX_type : MethodName := ⟨"MilkHorse", "type", "(II)I"⟩
theorem wcX_type : Cond.code yX_type prog_1_method_2_code 5 (some .int) ∈ am_tbl := am_m2 (i := 149) rfl rfl
theorem wiX_type : Cond.instanceMethod yX_type ∈ am_tbl := am_m2 (i := 147) rfl rfl
theorem wsX_type : Cond.selects "MilkHorse" yX_type yX_type ∈ am_tbl := am_m2 (i := 148) rfl rfl
def yX_textOf : MethodName := ⟨"MilkHorse", "textOf", "(I)LMilkHorse$Text;"⟩
theorem wcX_textOf : Cond.code yX_textOf prog_1_method_44_code 2 (some (.object "MilkHorse$Text")) ∈ am_tbl := am_m2 (i := 153) rfl rfl
theorem wiX_textOf : Cond.instanceMethod yX_textOf ∈ am_tbl := am_m2 (i := 152) rfl rfl
theorem wsX_textOf : Cond.selects "MilkHorse" yX_textOf yX_textOf ∈ am_tbl := am_memS (i := 0) (by decide +kernel) (by decide +kernel)
def yT_add : MethodName := ⟨"MilkHorse$Text", "add", "(I)I"⟩
theorem wcT_add : Cond.code yT_add prog_10_method_2_code 2 (some .int) ∈ am_tbl := am_m2 (i := 157) rfl rfl
theorem wiT_add : Cond.instanceMethod yT_add ∈ am_tbl := am_m2 (i := 155) rfl rfl
theorem wsT_add : Cond.selects "MilkHorse$Text" yT_add yT_add ∈ am_tbl := am_m2 (i := 156) rfl rfl
def yX_hearTexts : MethodName := ⟨"MilkHorse", "hearTexts", "()V"⟩
theorem wcX_hearTexts : Cond.code yX_hearTexts prog_1_method_47_code 1 none ∈ am_tbl := am_m2 (i := 161) rfl rfl
theorem wiX_hearTexts : Cond.instanceMethod yX_hearTexts ∈ am_tbl := am_m2 (i := 160) rfl rfl
theorem wsX_hearTexts : Cond.selects "MilkHorse" yX_hearTexts yX_hearTexts ∈ am_tbl := am_memS (i := 1) (by decide +kernel) (by decide +kernel)
def yT_spell : MethodName := ⟨"MilkHorse$Text", "spell", "([I)I"⟩
theorem wcT_spell : Cond.code yT_spell prog_10_method_6_code 4 (some .int) ∈ am_tbl := am_m2 (i := 165) rfl rfl
theorem wiT_spell : Cond.instanceMethod yT_spell ∈ am_tbl := am_m2 (i := 163) rfl rfl
theorem wsT_spell : Cond.selects "MilkHorse$Text" yT_spell yT_spell ∈ am_tbl := am_m2 (i := 164) rfl rfl
def yT_firstFault : MethodName := ⟨"MilkHorse$Text", "firstFault", "()I"⟩
theorem wcT_firstFault : Cond.code yT_firstFault prog_10_method_5_code 2 (some .int) ∈ am_tbl := am_m2 (i := 169) rfl rfl
theorem wiT_firstFault : Cond.instanceMethod yT_firstFault ∈ am_tbl := am_m2 (i := 167) rfl rfl
theorem wsT_firstFault : Cond.selects "MilkHorse$Text" yT_firstFault yT_firstFault ∈ am_tbl := am_m2 (i := 168) rfl rfl
def yX_forgetMornings : MethodName := ⟨"MilkHorse", "forgetMornings", "()V"⟩
theorem wcX_forgetMornings : Cond.code yX_forgetMornings prog_1_method_48_code 1 none ∈ am_tbl := am_m2 (i := 173) rfl rfl
theorem wiX_forgetMornings : Cond.instanceMethod yX_forgetMornings ∈ am_tbl := am_m2 (i := 172) rfl rfl
theorem wsX_forgetMornings : Cond.selects "MilkHorse" yX_forgetMornings yX_forgetMornings ∈ am_tbl := am_memS (i := 2) (by decide +kernel) (by decide +kernel)
def yX_wipe : MethodName := ⟨"MilkHorse", "wipe", "(I)I"⟩
theorem wcX_wipe : Cond.code yX_wipe prog_1_method_3_code 4 (some .int) ∈ am_tbl := am_m2 (i := 177) rfl rfl
theorem wiX_wipe : Cond.instanceMethod yX_wipe ∈ am_tbl := am_m2 (i := 175) rfl rfl
theorem wsX_wipe : Cond.selects "MilkHorse" yX_wipe yX_wipe ∈ am_tbl := am_m2 (i := 176) rfl rfl
def yT_clear : MethodName := ⟨"MilkHorse$Text", "clear", "()I"⟩
theorem wcT_clear : Cond.code yT_clear prog_10_method_3_code 2 (some .int) ∈ am_tbl := am_m2 (i := 181) rfl rfl
theorem wiT_clear : Cond.instanceMethod yT_clear ∈ am_tbl := am_m2 (i := 179) rfl rfl
theorem wsT_clear : Cond.selects "MilkHorse$Text" yT_clear yT_clear ∈ am_tbl := am_m2 (i := 180) rfl rfl
def yX_undo : MethodName := ⟨"MilkHorse", "undo", "(I)I"⟩
theorem wcX_undo : Cond.code yX_undo prog_1_method_4_code 4 (some .int) ∈ am_tbl := am_m2 (i := 185) rfl rfl
theorem wiX_undo : Cond.instanceMethod yX_undo ∈ am_tbl := am_m2 (i := 183) rfl rfl
theorem wsX_undo : Cond.selects "MilkHorse" yX_undo yX_undo ∈ am_tbl := am_m2 (i := 184) rfl rfl
def yT_drop : MethodName := ⟨"MilkHorse$Text", "drop", "()I"⟩
theorem wcT_drop : Cond.code yT_drop prog_10_method_4_code 1 (some .int) ∈ am_tbl := am_m2 (i := 189) rfl rfl
theorem wiT_drop : Cond.instanceMethod yT_drop ∈ am_tbl := am_m2 (i := 187) rfl rfl
theorem wsT_drop : Cond.selects "MilkHorse$Text" yT_drop yT_drop ∈ am_tbl := am_m2 (i := 188) rfl rfl
def yX_fault : MethodName := ⟨"MilkHorse", "fault", "(I)I"⟩
theorem wcX_fault : Cond.code yX_fault prog_1_method_5_code 3 (some .int) ∈ am_tbl := am_m2 (i := 193) rfl rfl
theorem wiX_fault : Cond.instanceMethod yX_fault ∈ am_tbl := am_m2 (i := 191) rfl rfl
theorem wsX_fault : Cond.selects "MilkHorse" yX_fault yX_fault ∈ am_tbl := am_m2 (i := 192) rfl rfl
def yX_told : MethodName := ⟨"MilkHorse", "told", "(II)I"⟩
theorem wcX_told : Cond.code yX_told prog_1_method_6_code 3 (some .int) ∈ am_tbl := am_m2 (i := 198) rfl rfl
theorem wiX_told : Cond.instanceMethod yX_told ∈ am_tbl := am_m2 (i := 196) rfl rfl
theorem wsX_told : Cond.selects "MilkHorse" yX_told yX_told ∈ am_tbl := am_m2 (i := 197) rfl rfl
def yX_isDoor : MethodName := ⟨"MilkHorse", "isDoor", "(I)Z"⟩
theorem wcX_isDoor : Cond.code yX_isDoor prog_1_method_41_code 1 (some .boolean) ∈ am_tbl := am_m2 (i := 201) rfl rfl
theorem wtX_isDoor : Cond.static yX_isDoor ∈ am_tbl := am_m2 (i := 200) rfl rfl
def yX_round : MethodName := ⟨"MilkHorse", "round", "(I)I"⟩
theorem wcX_round : Cond.code yX_round prog_1_method_7_code 2 (some .int) ∈ am_tbl := am_m2 (i := 205) rfl rfl
theorem wiX_round : Cond.instanceMethod yX_round ∈ am_tbl := am_m2 (i := 203) rfl rfl
theorem wsX_round : Cond.selects "MilkHorse" yX_round yX_round ∈ am_tbl := am_m2 (i := 204) rfl rfl
def yP_doorAt : MethodName := ⟨"MilkHorse$Plan", "doorAt", "(I)I"⟩
theorem wcP_doorAt : Cond.code yP_doorAt prog_6_method_3_code 2 (some .int) ∈ am_tbl := am_m2 (i := 209) rfl rfl
theorem wiP_doorAt : Cond.instanceMethod yP_doorAt ∈ am_tbl := am_m2 (i := 207) rfl rfl
theorem wsP_doorAt : Cond.selects "MilkHorse$Plan" yP_doorAt yP_doorAt ∈ am_tbl := am_m2 (i := 208) rfl rfl
def yX_set : MethodName := ⟨"MilkHorse", "set", "(II)I"⟩
theorem wcX_set : Cond.code yX_set prog_1_method_8_code 4 (some .int) ∈ am_tbl := am_m2 (i := 213) rfl rfl
theorem wiX_set : Cond.instanceMethod yX_set ∈ am_tbl := am_m2 (i := 211) rfl rfl
theorem wsX_set : Cond.selects "MilkHorse" yX_set yX_set ∈ am_tbl := am_m2 (i := 212) rfl rfl
def yX_event : MethodName := ⟨"MilkHorse", "event", "(III)I"⟩
theorem wcX_event : Cond.code yX_event prog_1_method_9_code 5 (some .int) ∈ am_tbl := am_m2 (i := 217) rfl rfl
theorem wiX_event : Cond.instanceMethod yX_event ∈ am_tbl := am_m2 (i := 215) rfl rfl
theorem wsX_event : Cond.selects "MilkHorse" yX_event yX_event ∈ am_tbl := am_m2 (i := 216) rfl rfl
def yE_add : MethodName := ⟨"MilkHorse$Events", "add", "(III)I"⟩
theorem wcE_add : Cond.code yE_add prog_5_method_2_code 4 (some .int) ∈ am_tbl := am_m2 (i := 221) rfl rfl
theorem wiE_add : Cond.instanceMethod yE_add ∈ am_tbl := am_m2 (i := 219) rfl rfl
theorem wsE_add : Cond.selects "MilkHorse$Events" yE_add yE_add ∈ am_tbl := am_m2 (i := 220) rfl rfl
def yX_isMinute : MethodName := ⟨"MilkHorse", "isMinute", "(I)Z"⟩
theorem wcX_isMinute : Cond.code yX_isMinute prog_1_method_42_code 1 (some .boolean) ∈ am_tbl := am_m2 (i := 224) rfl rfl
theorem wtX_isMinute : Cond.static yX_isMinute ∈ am_tbl := am_m2 (i := 223) rfl rfl
def yX_back : MethodName := ⟨"MilkHorse", "back", "()I"⟩
theorem wcX_back : Cond.code yX_back prog_1_method_10_code 2 (some .int) ∈ am_tbl := am_m2 (i := 229) rfl rfl
theorem wiX_back : Cond.instanceMethod yX_back ∈ am_tbl := am_m2 (i := 227) rfl rfl
theorem wsX_back : Cond.selects "MilkHorse" yX_back yX_back ∈ am_tbl := am_m2 (i := 228) rfl rfl
def yE_drop : MethodName := ⟨"MilkHorse$Events", "drop", "()I"⟩
theorem wcE_drop : Cond.code yE_drop prog_5_method_3_code 1 (some .int) ∈ am_tbl := am_m2 (i := 233) rfl rfl
theorem wiE_drop : Cond.instanceMethod yE_drop ∈ am_tbl := am_m2 (i := 231) rfl rfl
theorem wsE_drop : Cond.selects "MilkHorse$Events" yE_drop yE_drop ∈ am_tbl := am_m2 (i := 232) rfl rfl
def yX_read : MethodName := ⟨"MilkHorse", "read", "(I)I"⟩
theorem wcX_read : Cond.code yX_read prog_1_method_11_code 5 (some .int) ∈ am_tbl := am_m2 (i := 237) rfl rfl
theorem wiX_read : Cond.instanceMethod yX_read ∈ am_tbl := am_m2 (i := 235) rfl rfl
theorem wsX_read : Cond.selects "MilkHorse" yX_read yX_read ∈ am_tbl := am_m2 (i := 236) rfl rfl
def yX_sheetOf : MethodName := ⟨"MilkHorse", "sheetOf", "(I)LMilkHorse$Sheet;"⟩
theorem wcX_sheetOf : Cond.code yX_sheetOf prog_1_method_45_code 2 (some (.object "MilkHorse$Sheet")) ∈ am_tbl := am_m3 (i := 1) rfl rfl
theorem wiX_sheetOf : Cond.instanceMethod yX_sheetOf ∈ am_tbl := am_m3 (i := 0) rfl rfl
theorem wsX_sheetOf : Cond.selects "MilkHorse" yX_sheetOf yX_sheetOf ∈ am_tbl := am_memS (i := 3) (by decide +kernel) (by decide +kernel)
def yX_found : MethodName := ⟨"MilkHorse", "found", "(I)I"⟩
theorem wcX_found : Cond.code yX_found prog_1_method_46_code 2 (some .int) ∈ am_tbl := am_m3 (i := 5) rfl rfl
theorem wiX_found : Cond.instanceMethod yX_found ∈ am_tbl := am_m3 (i := 4) rfl rfl
theorem wsX_found : Cond.selects "MilkHorse" yX_found yX_found ∈ am_tbl := am_memS (i := 4) (by decide +kernel) (by decide +kernel)
def yX_at : MethodName := ⟨"MilkHorse", "at", "(II)I"⟩
theorem wcX_at : Cond.code yX_at prog_1_method_12_code 3 (some .int) ∈ am_tbl := am_m3 (i := 9) rfl rfl
theorem wiX_at : Cond.instanceMethod yX_at ∈ am_tbl := am_m3 (i := 7) rfl rfl
theorem wsX_at : Cond.selects "MilkHorse" yX_at yX_at ∈ am_tbl := am_m3 (i := 8) rfl rfl
def yX_learnDay : MethodName := ⟨"MilkHorse", "learnDay", "()V"⟩
theorem wcX_learnDay : Cond.code yX_learnDay prog_1_method_49_code 1 none ∈ am_tbl := am_m3 (i := 14) rfl rfl
theorem wiX_learnDay : Cond.instanceMethod yX_learnDay ∈ am_tbl := am_m3 (i := 13) rfl rfl
theorem wsX_learnDay : Cond.selects "MilkHorse" yX_learnDay yX_learnDay ∈ am_tbl := am_memS (i := 5) (by decide +kernel) (by decide +kernel)
def yY_begin : MethodName := ⟨"MilkHorse$Day", "begin", "()V"⟩
theorem wcY_begin : Cond.code yY_begin prog_4_method_2_code 1 none ∈ am_tbl := am_m3 (i := 18) rfl rfl
theorem wiY_begin : Cond.instanceMethod yY_begin ∈ am_tbl := am_m3 (i := 16) rfl rfl
theorem wsY_begin : Cond.selects "MilkHorse$Day" yY_begin yY_begin ∈ am_tbl := am_m3 (i := 17) rfl rfl
def yJ_fill : MethodName := ⟨"java/util/Arrays", "fill", "([II)V"⟩
theorem wcJ_fill : Cond.code yJ_fill prog_17_method_103_code 4 none ∈ am_tbl := am_m3 (i := 21) rfl rfl
theorem wtJ_fill : Cond.static yJ_fill ∈ am_tbl := am_m3 (i := 20) rfl rfl
def yW_run : MethodName := ⟨"MilkHorse$Walk", "run", "(LMilkHorse$Plan;LMilkHorse$Events;LMilkHorse$Day;)V"⟩
theorem wcW_run : Cond.code yW_run prog_11_method_2_code 5 none ∈ am_tbl := am_m3 (i := 25) rfl rfl
theorem wiW_run : Cond.instanceMethod yW_run ∈ am_tbl := am_m3 (i := 23) rfl rfl
theorem wsW_run : Cond.selects "MilkHorse$Walk" yW_run yW_run ∈ am_tbl := am_m3 (i := 24) rfl rfl
def yW_begin : MethodName := ⟨"MilkHorse$Walk", "begin", "(LMilkHorse$Plan;)V"⟩
theorem wcW_begin : Cond.code yW_begin prog_11_method_3_code 2 none ∈ am_tbl := am_m3 (i := 29) rfl rfl
theorem wiW_begin : Cond.instanceMethod yW_begin ∈ am_tbl := am_m3 (i := 28) rfl rfl
theorem wsW_begin : Cond.selects "MilkHorse$Walk" yW_begin yW_begin ∈ am_tbl := am_memS (i := 6) (by decide +kernel) (by decide +kernel)
def yW_befall : MethodName := ⟨"MilkHorse$Walk", "befall", "(ILMilkHorse$Events;I)V"⟩
theorem wcW_befall : Cond.code yW_befall prog_11_method_4_code 7 none ∈ am_tbl := am_m3 (i := 37) rfl rfl
theorem wiW_befall : Cond.instanceMethod yW_befall ∈ am_tbl := am_m3 (i := 36) rfl rfl
theorem wsW_befall : Cond.selects "MilkHorse$Walk" yW_befall yW_befall ∈ am_tbl := am_memS (i := 7) (by decide +kernel) (by decide +kernel)
def yW_pullCart : MethodName := ⟨"MilkHorse$Walk", "pullCart", "(I)V"⟩
theorem wcW_pullCart : Cond.code yW_pullCart prog_11_method_6_code 2 none ∈ am_tbl := am_m3 (i := 41) rfl rfl
theorem wiW_pullCart : Cond.instanceMethod yW_pullCart ∈ am_tbl := am_m3 (i := 40) rfl rfl
theorem wsW_pullCart : Cond.selects "MilkHorse$Walk" yW_pullCart yW_pullCart ∈ am_tbl := am_memS (i := 8) (by decide +kernel) (by decide +kernel)
def yJ_min : MethodName := ⟨"java/lang/Math", "min", "(II)I"⟩
theorem wcJ_min : Cond.code yJ_min prog_15_method_69_code 2 (some .int) ∈ am_tbl := am_m3 (i := 44) rfl rfl
theorem wtJ_min : Cond.static yJ_min ∈ am_tbl := am_m3 (i := 43) rfl rfl
def yJ_max : MethodName := ⟨"java/lang/Math", "max", "(II)I"⟩
theorem wcJ_max : Cond.code yJ_max prog_15_method_65_code 2 (some .int) ∈ am_tbl := am_m3 (i := 47) rfl rfl
theorem wtJ_max : Cond.static yJ_max ∈ am_tbl := am_m3 (i := 46) rfl rfl
def yW_breakOne : MethodName := ⟨"MilkHorse$Walk", "breakOne", "(I)V"⟩
theorem wcW_breakOne : Cond.code yW_breakOne prog_11_method_5_code 2 none ∈ am_tbl := am_m3 (i := 51) rfl rfl
theorem wiW_breakOne : Cond.instanceMethod yW_breakOne ∈ am_tbl := am_m3 (i := 50) rfl rfl
theorem wsW_breakOne : Cond.selects "MilkHorse$Walk" yW_breakOne yW_breakOne ∈ am_tbl := am_memS (i := 9) (by decide +kernel) (by decide +kernel)
def yW_act : MethodName := ⟨"MilkHorse$Walk", "act", "(LMilkHorse$Plan;)V"⟩
theorem wcW_act : Cond.code yW_act prog_11_method_7_code 5 none ∈ am_tbl := am_m3 (i := 56) rfl rfl
theorem wiW_act : Cond.instanceMethod yW_act ∈ am_tbl := am_m3 (i := 55) rfl rfl
theorem wsW_act : Cond.selects "MilkHorse$Walk" yW_act yW_act ∈ am_tbl := am_memS (i := 10) (by decide +kernel) (by decide +kernel)
def yW_goTowards : MethodName := ⟨"MilkHorse$Walk", "goTowards", "(I)V"⟩
theorem wcW_goTowards : Cond.code yW_goTowards prog_11_method_8_code 3 none ∈ am_tbl := am_m3 (i := 61) rfl rfl
theorem wiW_goTowards : Cond.instanceMethod yW_goTowards ∈ am_tbl := am_m3 (i := 60) rfl rfl
theorem wsW_goTowards : Cond.selects "MilkHorse$Walk" yW_goTowards yW_goTowards ∈ am_tbl := am_memS (i := 11) (by decide +kernel) (by decide +kernel)
def yW_hasDog : MethodName := ⟨"MilkHorse$Walk", "hasDog", "(I)Z"⟩
theorem wcW_hasDog : Cond.code yW_hasDog prog_11_method_9_code 2 (some .boolean) ∈ am_tbl := am_m3 (i := 65) rfl rfl
theorem wiW_hasDog : Cond.instanceMethod yW_hasDog ∈ am_tbl := am_m3 (i := 64) rfl rfl
theorem wsW_hasDog : Cond.selects "MilkHorse$Walk" yW_hasDog yW_hasDog ∈ am_tbl := am_memS (i := 12) (by decide +kernel) (by decide +kernel)
def yW_fillCrate : MethodName := ⟨"MilkHorse$Walk", "fillCrate", "(I)V"⟩
theorem wcW_fillCrate : Cond.code yW_fillCrate prog_11_method_10_code 2 none ∈ am_tbl := am_m3 (i := 69) rfl rfl
theorem wiW_fillCrate : Cond.instanceMethod yW_fillCrate ∈ am_tbl := am_m3 (i := 68) rfl rfl
theorem wsW_fillCrate : Cond.selects "MilkHorse$Walk" yW_fillCrate yW_fillCrate ∈ am_tbl := am_memS (i := 13) (by decide +kernel) (by decide +kernel)
def yW_serve : MethodName := ⟨"MilkHorse$Walk", "serve", "(LMilkHorse$Plan;I)V"⟩
theorem wcW_serve : Cond.code yW_serve prog_11_method_11_code 5 none ∈ am_tbl := am_m3 (i := 73) rfl rfl
theorem wiW_serve : Cond.instanceMethod yW_serve ∈ am_tbl := am_m3 (i := 72) rfl rfl
theorem wsW_serve : Cond.selects "MilkHorse$Walk" yW_serve yW_serve ∈ am_tbl := am_memS (i := 14) (by decide +kernel) (by decide +kernel)
def yW_drive : MethodName := ⟨"MilkHorse$Walk", "drive", "(II)V"⟩
theorem wcW_drive : Cond.code yW_drive prog_11_method_12_code 5 none ∈ am_tbl := am_m3 (i := 77) rfl rfl
theorem wiW_drive : Cond.instanceMethod yW_drive ∈ am_tbl := am_m3 (i := 76) rfl rfl
theorem wsW_drive : Cond.selects "MilkHorse$Walk" yW_drive yW_drive ∈ am_tbl := am_memS (i := 15) (by decide +kernel) (by decide +kernel)
def yJ_abs : MethodName := ⟨"java/lang/Math", "abs", "(I)I"⟩
theorem wcJ_abs : Cond.code yJ_abs prog_15_method_59_code 1 (some .int) ∈ am_tbl := am_m3 (i := 80) rfl rfl
theorem wtJ_abs : Cond.static yJ_abs ∈ am_tbl := am_m3 (i := 79) rfl rfl
def yY_note : MethodName := ⟨"MilkHorse$Day", "note", "(LMilkHorse$Walk;[II)V"⟩
theorem wcY_note : Cond.code yY_note prog_4_method_3_code 7 none ∈ am_tbl := am_m3 (i := 84) rfl rfl
theorem wiY_note : Cond.instanceMethod yY_note ∈ am_tbl := am_m3 (i := 82) rfl rfl
theorem wsY_note : Cond.selects "MilkHorse$Day" yY_note yY_note ∈ am_tbl := am_m3 (i := 83) rfl rfl
def yY_end : MethodName := ⟨"MilkHorse$Day", "end", "(LMilkHorse$Walk;LMilkHorse$Plan;)V"⟩
theorem wcY_end : Cond.code yY_end prog_4_method_4_code 3 none ∈ am_tbl := am_m3 (i := 89) rfl rfl
theorem wiY_end : Cond.instanceMethod yY_end ∈ am_tbl := am_m3 (i := 87) rfl rfl
theorem wsY_end : Cond.selects "MilkHorse$Day" yY_end yY_end ∈ am_tbl := am_m3 (i := 88) rfl rfl
def yW_lacking : MethodName := ⟨"MilkHorse$Walk", "lacking", "(LMilkHorse$Plan;)I"⟩
theorem wcW_lacking : Cond.code yW_lacking prog_11_method_13_code 4 (some .int) ∈ am_tbl := am_m3 (i := 93) rfl rfl
theorem wiW_lacking : Cond.instanceMethod yW_lacking ∈ am_tbl := am_m3 (i := 91) rfl rfl
theorem wsW_lacking : Cond.selects "MilkHorse$Walk" yW_lacking yW_lacking ∈ am_tbl := am_m3 (i := 92) rfl rfl
def yX_door : MethodName := ⟨"MilkHorse", "door", "(III)I"⟩
theorem wcX_door : Cond.code yX_door prog_1_method_13_code 4 (some .int) ∈ am_tbl := am_m3 (i := 97) rfl rfl
theorem wiX_door : Cond.instanceMethod yX_door ∈ am_tbl := am_m3 (i := 95) rfl rfl
theorem wsX_door : Cond.selects "MilkHorse" yX_door yX_door ∈ am_tbl := am_m3 (i := 96) rfl rfl
def yX_done : MethodName := ⟨"MilkHorse", "done", "(I)I"⟩
theorem wcX_done : Cond.code yX_done prog_1_method_14_code 2 (some .int) ∈ am_tbl := am_m3 (i := 101) rfl rfl
theorem wiX_done : Cond.instanceMethod yX_done ∈ am_tbl := am_m3 (i := 99) rfl rfl
theorem wsX_done : Cond.selects "MilkHorse" yX_done yX_done ∈ am_tbl := am_m3 (i := 100) rfl rfl
def yX_sum : MethodName := ⟨"MilkHorse", "sum", "(I)I"⟩
theorem wcX_sum : Cond.code yX_sum prog_1_method_15_code 2 (some .int) ∈ am_tbl := am_m3 (i := 105) rfl rfl
theorem wiX_sum : Cond.instanceMethod yX_sum ∈ am_tbl := am_m3 (i := 103) rfl rfl
theorem wsX_sum : Cond.selects "MilkHorse" yX_sum yX_sum ∈ am_tbl := am_m3 (i := 104) rfl rfl
def yX_over : MethodName := ⟨"MilkHorse", "over", "()I"⟩
theorem wcX_over : Cond.code yX_over prog_1_method_16_code 1 (some .int) ∈ am_tbl := am_m3 (i := 109) rfl rfl
theorem wiX_over : Cond.instanceMethod yX_over ∈ am_tbl := am_m3 (i := 107) rfl rfl
theorem wsX_over : Cond.selects "MilkHorse" yX_over yX_over ∈ am_tbl := am_m3 (i := 108) rfl rfl
def yX_lacks : MethodName := ⟨"MilkHorse", "lacks", "()I"⟩
theorem wcX_lacks : Cond.code yX_lacks prog_1_method_17_code 1 (some .int) ∈ am_tbl := am_m3 (i := 113) rfl rfl
theorem wiX_lacks : Cond.instanceMethod yX_lacks ∈ am_tbl := am_m3 (i := 111) rfl rfl
theorem wsX_lacks : Cond.selects "MilkHorse" yX_lacks yX_lacks ∈ am_tbl := am_m3 (i := 112) rfl rfl
def yX_better : MethodName := ⟨"MilkHorse", "better", "(I)I"⟩
theorem wcX_better : Cond.code yX_better prog_1_method_18_code 3 (some .int) ∈ am_tbl := am_m3 (i := 117) rfl rfl
theorem wiX_better : Cond.instanceMethod yX_better ∈ am_tbl := am_m3 (i := 115) rfl rfl
theorem wsX_better : Cond.selects "MilkHorse" yX_better yX_better ∈ am_tbl := am_m3 (i := 116) rfl rfl
def yO_clear : MethodName := ⟨"MilkHorse$Choice", "clear", "()V"⟩
theorem wcO_clear : Cond.code yO_clear prog_3_method_2_code 1 none ∈ am_tbl := am_m3 (i := 121) rfl rfl
theorem wiO_clear : Cond.instanceMethod yO_clear ∈ am_tbl := am_m3 (i := 119) rfl rfl
theorem wsO_clear : Cond.selects "MilkHorse$Choice" yO_clear yO_clear ∈ am_tbl := am_m3 (i := 120) rfl rfl
def yP_take : MethodName := ⟨"MilkHorse$Plan", "take", "(LMilkHorse$Plan;)V"⟩
theorem wcP_take : Cond.code yP_take prog_6_method_2_code 2 none ∈ am_tbl := am_m3 (i := 125) rfl rfl
theorem wiP_take : Cond.instanceMethod yP_take ∈ am_tbl := am_m3 (i := 123) rfl rfl
theorem wsP_take : Cond.selects "MilkHorse$Plan" yP_take yP_take ∈ am_tbl := am_m3 (i := 124) rfl rfl
def yW_howManyLack : MethodName := ⟨"MilkHorse$Walk", "howManyLack", "(LMilkHorse$Plan;)I"⟩
theorem wcW_howManyLack : Cond.code yW_howManyLack prog_11_method_14_code 2 (some .int) ∈ am_tbl := am_m3 (i := 130) rfl rfl
theorem wiW_howManyLack : Cond.instanceMethod yW_howManyLack ∈ am_tbl := am_m3 (i := 128) rfl rfl
theorem wsW_howManyLack : Cond.selects "MilkHorse$Walk" yW_howManyLack yW_howManyLack ∈ am_tbl := am_m3 (i := 129) rfl rfl
def yJ_bitCount : MethodName := ⟨"java/lang/Integer", "bitCount", "(I)I"⟩
theorem wcJ_bitCount : Cond.code yJ_bitCount prog_14_method_49_code 1 (some .int) ∈ am_tbl := am_m3 (i := 134) rfl rfl
theorem wtJ_bitCount : Cond.static yJ_bitCount ∈ am_tbl := am_m3 (i := 133) rfl rfl
def yO_offer : MethodName := ⟨"MilkHorse$Choice", "offer", "(IIII)V"⟩
theorem wcO_offer : Cond.code yO_offer prog_3_method_3_code 6 none ∈ am_tbl := am_m3 (i := 141) rfl rfl
theorem wiO_offer : Cond.instanceMethod yO_offer ∈ am_tbl := am_m3 (i := 139) rfl rfl
theorem wsO_offer : Cond.selects "MilkHorse$Choice" yO_offer yO_offer ∈ am_tbl := am_m3 (i := 140) rfl rfl
def yO_ofOne : MethodName := ⟨"MilkHorse$Choice", "ofOne", "(I)I"⟩
theorem wcO_ofOne : Cond.code yO_ofOne prog_3_method_4_code 2 (some .int) ∈ am_tbl := am_m3 (i := 145) rfl rfl
theorem wiO_ofOne : Cond.instanceMethod yO_ofOne ∈ am_tbl := am_m3 (i := 143) rfl rfl
theorem wsO_ofOne : Cond.selects "MilkHorse$Choice" yO_ofOne yO_ofOne ∈ am_tbl := am_m3 (i := 144) rfl rfl
def yX_fit : MethodName := ⟨"MilkHorse", "fit", "(I)I"⟩
theorem wcX_fit : Cond.code yX_fit prog_1_method_19_code 3 (some .int) ∈ am_tbl := am_m3 (i := 149) rfl rfl
theorem wiX_fit : Cond.instanceMethod yX_fit ∈ am_tbl := am_m3 (i := 147) rfl rfl
theorem wsX_fit : Cond.selects "MilkHorse" yX_fit yX_fit ∈ am_tbl := am_m3 (i := 148) rfl rfl
def yX_swap : MethodName := ⟨"MilkHorse", "swap", "(I)I"⟩
theorem wcX_swap : Cond.code yX_swap prog_1_method_20_code 2 (some .int) ∈ am_tbl := am_m3 (i := 153) rfl rfl
theorem wiX_swap : Cond.instanceMethod yX_swap ∈ am_tbl := am_m3 (i := 151) rfl rfl
theorem wsX_swap : Cond.selects "MilkHorse" yX_swap yX_swap ∈ am_tbl := am_m3 (i := 152) rfl rfl
def yX_learnSwaps : MethodName := ⟨"MilkHorse", "learnSwaps", "()V"⟩
theorem wcX_learnSwaps : Cond.code yX_learnSwaps prog_1_method_50_code 4 none ∈ am_tbl := am_m3 (i := 157) rfl rfl
theorem wiX_learnSwaps : Cond.instanceMethod yX_learnSwaps ∈ am_tbl := am_m3 (i := 156) rfl rfl
theorem wsX_learnSwaps : Cond.selects "MilkHorse" yX_learnSwaps yX_learnSwaps ∈ am_tbl := am_memS (i := 16) (by decide +kernel) (by decide +kernel)
def yX_spare : MethodName := ⟨"MilkHorse", "spare", "(I)I"⟩
theorem wcX_spare : Cond.code yX_spare prog_1_method_21_code 2 (some .int) ∈ am_tbl := am_m3 (i := 162) rfl rfl
theorem wiX_spare : Cond.instanceMethod yX_spare ∈ am_tbl := am_m3 (i := 160) rfl rfl
theorem wsX_spare : Cond.selects "MilkHorse" yX_spare yX_spare ∈ am_tbl := am_m3 (i := 161) rfl rfl
def yX_learnSpared : MethodName := ⟨"MilkHorse", "learnSpared", "()V"⟩
theorem wcX_learnSpared : Cond.code yX_learnSpared prog_1_method_51_code 3 none ∈ am_tbl := am_m3 (i := 166) rfl rfl
theorem wiX_learnSpared : Cond.instanceMethod yX_learnSpared ∈ am_tbl := am_m3 (i := 165) rfl rfl
theorem wsX_learnSpared : Cond.selects "MilkHorse" yX_learnSpared yX_learnSpared ∈ am_tbl := am_memS (i := 17) (by decide +kernel) (by decide +kernel)
def yQ_keep : MethodName := ⟨"MilkHorse$Spared", "keep", "(III)V"⟩
theorem wcQ_keep : Cond.code yQ_keep prog_9_method_2_code 4 none ∈ am_tbl := am_m3 (i := 170) rfl rfl
theorem wiQ_keep : Cond.instanceMethod yQ_keep ∈ am_tbl := am_m3 (i := 168) rfl rfl
theorem wsQ_keep : Cond.selects "MilkHorse$Spared" yQ_keep yQ_keep ∈ am_tbl := am_m3 (i := 169) rfl rfl
def yX_isWellWithout : MethodName := ⟨"MilkHorse", "isWellWithout", "(I)Z"⟩
theorem wcX_isWellWithout : Cond.code yX_isWellWithout prog_1_method_52_code 2 (some .boolean) ∈ am_tbl := am_m3 (i := 174) rfl rfl
theorem wiX_isWellWithout : Cond.instanceMethod yX_isWellWithout ∈ am_tbl := am_m3 (i := 173) rfl rfl
theorem wsX_isWellWithout : Cond.selects "MilkHorse" yX_isWellWithout yX_isWellWithout ∈ am_tbl := am_memS (i := 18) (by decide +kernel) (by decide +kernel)
def yX_seen : MethodName := ⟨"MilkHorse", "seen", "(II)I"⟩
theorem wcX_seen : Cond.code yX_seen prog_1_method_22_code 3 (some .int) ∈ am_tbl := am_m3 (i := 179) rfl rfl
theorem wiX_seen : Cond.instanceMethod yX_seen ∈ am_tbl := am_m3 (i := 177) rfl rfl
theorem wsX_seen : Cond.selects "MilkHorse" yX_seen yX_seen ∈ am_tbl := am_m3 (i := 178) rfl rfl
def yS_add : MethodName := ⟨"MilkHorse$Sights", "add", "(II)I"⟩
theorem wcS_add : Cond.code yS_add prog_8_method_2_code 3 (some .int) ∈ am_tbl := am_m3 (i := 183) rfl rfl
theorem wiS_add : Cond.instanceMethod yS_add ∈ am_tbl := am_m3 (i := 181) rfl rfl
theorem wsS_add : Cond.selects "MilkHorse$Sights" yS_add yS_add ∈ am_tbl := am_m3 (i := 182) rfl rfl
def yX_forget : MethodName := ⟨"MilkHorse", "forget", "()I"⟩
theorem wcX_forget : Cond.code yX_forget prog_1_method_23_code 1 (some .int) ∈ am_tbl := am_m3 (i := 187) rfl rfl
theorem wiX_forget : Cond.instanceMethod yX_forget ∈ am_tbl := am_m3 (i := 185) rfl rfl
theorem wsX_forget : Cond.selects "MilkHorse" yX_forget yX_forget ∈ am_tbl := am_m3 (i := 186) rfl rfl
def yS_clear : MethodName := ⟨"MilkHorse$Sights", "clear", "()I"⟩
theorem wcS_clear : Cond.code yS_clear prog_8_method_3_code 2 (some .int) ∈ am_tbl := am_m3 (i := 191) rfl rfl
theorem wiS_clear : Cond.instanceMethod yS_clear ∈ am_tbl := am_m3 (i := 189) rfl rfl
theorem wsS_clear : Cond.selects "MilkHorse$Sights" yS_clear yS_clear ∈ am_tbl := am_m3 (i := 190) rfl rfl
def yX_never : MethodName := ⟨"MilkHorse", "never", "()I"⟩
theorem wcX_never : Cond.code yX_never prog_1_method_24_code 3 (some .int) ∈ am_tbl := am_m3 (i := 195) rfl rfl
theorem wiX_never : Cond.instanceMethod yX_never ∈ am_tbl := am_m3 (i := 193) rfl rfl
theorem wsX_never : Cond.selects "MilkHorse" yX_never yX_never ∈ am_tbl := am_m3 (i := 194) rfl rfl
def yX_comesOutAsSeen : MethodName := ⟨"MilkHorse", "comesOutAsSeen", "()Z"⟩
theorem wcX_comesOutAsSeen : Cond.code yX_comesOutAsSeen prog_1_method_54_code 1 (some .boolean) ∈ am_tbl := am_m3 (i := 199) rfl rfl
theorem wiX_comesOutAsSeen : Cond.instanceMethod yX_comesOutAsSeen ∈ am_tbl := am_m3 (i := 198) rfl rfl
theorem wsX_comesOutAsSeen : Cond.selects "MilkHorse" yX_comesOutAsSeen yX_comesOutAsSeen ∈ am_tbl := am_memS (i := 19) (by decide +kernel) (by decide +kernel)
def yS_agreeWith : MethodName := ⟨"MilkHorse$Sights", "agreeWith", "([I)Z"⟩
theorem wcS_agreeWith : Cond.code yS_agreeWith prog_8_method_4_code 4 (some .boolean) ∈ am_tbl := am_m3 (i := 203) rfl rfl
theorem wiS_agreeWith : Cond.instanceMethod yS_agreeWith ∈ am_tbl := am_m3 (i := 201) rfl rfl
theorem wsS_agreeWith : Cond.selects "MilkHorse$Sights" yS_agreeWith yS_agreeWith ∈ am_tbl := am_m3 (i := 202) rfl rfl
def yX_numbers : MethodName := ⟨"MilkHorse", "numbers", "(I)I"⟩
theorem wcX_numbers : Cond.code yX_numbers prog_1_method_25_code 4 (some .int) ∈ am_tbl := am_m3 (i := 207) rfl rfl
theorem wiX_numbers : Cond.instanceMethod yX_numbers ∈ am_tbl := am_m3 (i := 205) rfl rfl
theorem wsX_numbers : Cond.selects "MilkHorse" yX_numbers yX_numbers ∈ am_tbl := am_m3 (i := 206) rfl rfl
def yX_might : MethodName := ⟨"MilkHorse", "might", "(I)I"⟩
theorem wcX_might : Cond.code yX_might prog_1_method_26_code 6 (some .int) ∈ am_tbl := am_m3 (i := 211) rfl rfl
theorem wiX_might : Cond.instanceMethod yX_might ∈ am_tbl := am_m3 (i := 209) rfl rfl
theorem wsX_might : Cond.selects "MilkHorse" yX_might yX_might ∈ am_tbl := am_m3 (i := 210) rfl rfl
def yX_ask : MethodName := ⟨"MilkHorse", "ask", "()I"⟩
theorem wcX_ask : Cond.code yX_ask prog_1_method_27_code 6 (some .int) ∈ am_tbl := am_m3 (i := 215) rfl rfl
theorem wiX_ask : Cond.instanceMethod yX_ask ∈ am_tbl := am_m3 (i := 213) rfl rfl
theorem wsX_ask : Cond.selects "MilkHorse" yX_ask yX_ask ∈ am_tbl := am_m3 (i := 214) rfl rfl
def yX_gatherCrowds : MethodName := ⟨"MilkHorse", "gatherCrowds", "()V"⟩
theorem wcX_gatherCrowds : Cond.code yX_gatherCrowds prog_1_method_55_code 4 none ∈ am_tbl := am_m3 (i := 219) rfl rfl
theorem wiX_gatherCrowds : Cond.instanceMethod yX_gatherCrowds ∈ am_tbl := am_m3 (i := 218) rfl rfl
theorem wsX_gatherCrowds : Cond.selects "MilkHorse" yX_gatherCrowds yX_gatherCrowds ∈ am_tbl := am_memS (i := 20) (by decide +kernel) (by decide +kernel)
def yX_chance : MethodName := ⟨"MilkHorse", "chance", "(III)J"⟩
theorem wcX_chance : Cond.code yX_chance prog_1_method_28_code 9 (some .long) ∈ am_tbl := am_m3 (i := 225) rfl rfl
theorem wiX_chance : Cond.instanceMethod yX_chance ∈ am_tbl := am_m3 (i := 223) rfl rfl
theorem wsX_chance : Cond.selects "MilkHorse" yX_chance yX_chance ∈ am_tbl := am_m3 (i := 224) rfl rfl
def yX_learnChances : MethodName := ⟨"MilkHorse", "learnChances", "()V"⟩
theorem wcX_learnChances : Cond.code yX_learnChances prog_1_method_53_code 2 none ∈ am_tbl := am_m3 (i := 230) rfl rfl
theorem wiX_learnChances : Cond.instanceMethod yX_learnChances ∈ am_tbl := am_m3 (i := 229) rfl rfl
theorem wsX_learnChances : Cond.selects "MilkHorse" yX_learnChances yX_learnChances ∈ am_tbl := am_memS (i := 21) (by decide +kernel) (by decide +kernel)
def yH_weigh : MethodName := ⟨"MilkHorse$Chances", "weigh", "(III)J"⟩
theorem wcH_weigh : Cond.code yH_weigh prog_2_method_2_code 7 (some .long) ∈ am_tbl := am_m3 (i := 234) rfl rfl
theorem wiH_weigh : Cond.instanceMethod yH_weigh ∈ am_tbl := am_m3 (i := 232) rfl rfl
theorem wsH_weigh : Cond.selects "MilkHorse$Chances" yH_weigh yH_weigh ∈ am_tbl := am_m3 (i := 233) rfl rfl
def yH_weight : MethodName := ⟨"MilkHorse$Chances", "weight", "(III)J"⟩
theorem wcH_weight : Cond.code yH_weight prog_2_method_3_code 6 (some .long) ∈ am_tbl := am_m3 (i := 237) rfl rfl
theorem wtH_weight : Cond.static yH_weight ∈ am_tbl := am_m3 (i := 236) rfl rfl
def yX_mornings : MethodName := ⟨"MilkHorse", "mornings", "(III)I"⟩
theorem wcX_mornings : Cond.code yX_mornings prog_1_method_29_code 6 (some .int) ∈ am_tbl := am_m4 (i := 3) rfl rfl
theorem wiX_mornings : Cond.instanceMethod yX_mornings ∈ am_tbl := am_m4 (i := 1) rfl rfl
theorem wsX_mornings : Cond.selects "MilkHorse" yX_mornings yX_mornings ∈ am_tbl := am_m4 (i := 2) rfl rfl
def yX_sheet : MethodName := ⟨"MilkHorse", "sheet", "(III)I"⟩
theorem wcX_sheet : Cond.code yX_sheet prog_1_method_30_code 5 (some .int) ∈ am_tbl := am_m4 (i := 8) rfl rfl
theorem wiX_sheet : Cond.instanceMethod yX_sheet ∈ am_tbl := am_m4 (i := 6) rfl rfl
theorem wsX_sheet : Cond.selects "MilkHorse" yX_sheet yX_sheet ∈ am_tbl := am_m4 (i := 7) rfl rfl
def yX_isForm : MethodName := ⟨"MilkHorse", "isForm", "(I)Z"⟩
theorem wcX_isForm : Cond.code yX_isForm prog_1_method_43_code 1 (some .boolean) ∈ am_tbl := am_m4 (i := 11) rfl rfl
theorem wtX_isForm : Cond.static yX_isForm ∈ am_tbl := am_m4 (i := 10) rfl rfl
def yG_begin : MethodName := ⟨"MilkHorse$Sheet", "begin", "(II)V"⟩
theorem wcG_begin : Cond.code yG_begin prog_7_method_2_code 3 none ∈ am_tbl := am_m4 (i := 15) rfl rfl
theorem wiG_begin : Cond.instanceMethod yG_begin ∈ am_tbl := am_m4 (i := 13) rfl rfl
theorem wsG_begin : Cond.selects "MilkHorse$Sheet" yG_begin yG_begin ∈ am_tbl := am_m4 (i := 14) rfl rfl
def yX_lose : MethodName := ⟨"MilkHorse", "lose", "(I)I"⟩
theorem wcX_lose : Cond.code yX_lose prog_1_method_31_code 3 (some .int) ∈ am_tbl := am_m4 (i := 20) rfl rfl
theorem wiX_lose : Cond.instanceMethod yX_lose ∈ am_tbl := am_m4 (i := 18) rfl rfl
theorem wsX_lose : Cond.selects "MilkHorse" yX_lose yX_lose ∈ am_tbl := am_m4 (i := 19) rfl rfl
def yX_put : MethodName := ⟨"MilkHorse", "put", "(IIII)I"⟩
theorem wcX_put : Cond.code yX_put prog_1_method_32_code 7 (some .int) ∈ am_tbl := am_m4 (i := 24) rfl rfl
theorem wiX_put : Cond.instanceMethod yX_put ∈ am_tbl := am_m4 (i := 22) rfl rfl
theorem wsX_put : Cond.selects "MilkHorse" yX_put yX_put ∈ am_tbl := am_m4 (i := 23) rfl rfl
def yG_refusal : MethodName := ⟨"MilkHorse$Sheet", "refusal", "(II)I"⟩
theorem wcG_refusal : Cond.code yG_refusal prog_7_method_3_code 3 (some .int) ∈ am_tbl := am_m4 (i := 28) rfl rfl
theorem wiG_refusal : Cond.instanceMethod yG_refusal ∈ am_tbl := am_m4 (i := 26) rfl rfl
theorem wsG_refusal : Cond.selects "MilkHorse$Sheet" yG_refusal yG_refusal ∈ am_tbl := am_m4 (i := 27) rfl rfl
def yG_keep : MethodName := ⟨"MilkHorse$Sheet", "keep", "(II)V"⟩
theorem wcG_keep : Cond.code yG_keep prog_7_method_4_code 3 none ∈ am_tbl := am_m4 (i := 32) rfl rfl
theorem wiG_keep : Cond.instanceMethod yG_keep ∈ am_tbl := am_m4 (i := 30) rfl rfl
theorem wsG_keep : Cond.selects "MilkHorse$Sheet" yG_keep yG_keep ∈ am_tbl := am_m4 (i := 31) rfl rfl
def yX_get : MethodName := ⟨"MilkHorse", "get", "(III)I"⟩
theorem wcX_get : Cond.code yX_get prog_1_method_33_code 6 (some .int) ∈ am_tbl := am_m4 (i := 36) rfl rfl
theorem wiX_get : Cond.instanceMethod yX_get ∈ am_tbl := am_m4 (i := 34) rfl rfl
theorem wsX_get : Cond.selects "MilkHorse" yX_get yX_get ∈ am_tbl := am_m4 (i := 35) rfl rfl
def yG_item : MethodName := ⟨"MilkHorse$Sheet", "item", "(I)I"⟩
theorem wcG_item : Cond.code yG_item prog_7_method_5_code 2 (some .int) ∈ am_tbl := am_m4 (i := 41) rfl rfl
theorem wiG_item : Cond.instanceMethod yG_item ∈ am_tbl := am_m4 (i := 39) rfl rfl
theorem wsG_item : Cond.selects "MilkHorse$Sheet" yG_item yG_item ∈ am_tbl := am_m4 (i := 40) rfl rfl
def yX_copy : MethodName := ⟨"MilkHorse", "copy", "(IIIII)I"⟩
theorem wcX_copy : Cond.code yX_copy prog_1_method_34_code 8 (some .int) ∈ am_tbl := am_m4 (i := 45) rfl rfl
theorem wiX_copy : Cond.instanceMethod yX_copy ∈ am_tbl := am_m4 (i := 43) rfl rfl
theorem wsX_copy : Cond.selects "MilkHorse" yX_copy yX_copy ∈ am_tbl := am_m4 (i := 44) rfl rfl
def yG_holds : MethodName := ⟨"MilkHorse$Sheet", "holds", "(II)Z"⟩
theorem wcG_holds : Cond.code yG_holds prog_7_method_6_code 3 (some .boolean) ∈ am_tbl := am_m4 (i := 49) rfl rfl
theorem wiG_holds : Cond.instanceMethod yG_holds ∈ am_tbl := am_m4 (i := 47) rfl rfl
theorem wsG_holds : Cond.selects "MilkHorse$Sheet" yG_holds yG_holds ∈ am_tbl := am_m4 (i := 48) rfl rfl
def yX_write : MethodName := ⟨"MilkHorse", "write", "(II)I"⟩
theorem wcX_write : Cond.code yX_write prog_1_method_35_code 6 (some .int) ∈ am_tbl := am_m4 (i := 54) rfl rfl
theorem wiX_write : Cond.instanceMethod yX_write ∈ am_tbl := am_m4 (i := 52) rfl rfl
theorem wsX_write : Cond.selects "MilkHorse" yX_write yX_write ∈ am_tbl := am_m4 (i := 53) rfl rfl
def yX_count : MethodName := ⟨"MilkHorse", "count", "(I)I"⟩
theorem wcX_count : Cond.code yX_count prog_1_method_36_code 2 (some .int) ∈ am_tbl := am_m4 (i := 58) rfl rfl
theorem wiX_count : Cond.instanceMethod yX_count ∈ am_tbl := am_m4 (i := 56) rfl rfl
theorem wsX_count : Cond.selects "MilkHorse" yX_count yX_count ∈ am_tbl := am_m4 (i := 57) rfl rfl
def yX_digest : MethodName := ⟨"MilkHorse", "digest", "()J"⟩
theorem wcX_digest : Cond.code yX_digest prog_1_method_37_code 4 (some .long) ∈ am_tbl := am_m4 (i := 63) rfl rfl
theorem wiX_digest : Cond.instanceMethod yX_digest ∈ am_tbl := am_m4 (i := 61) rfl rfl
theorem wsX_digest : Cond.selects "MilkHorse" yX_digest yX_digest ∈ am_tbl := am_m4 (i := 62) rfl rfl
def yX_mixTold : MethodName := ⟨"MilkHorse", "mixTold", "(J)J"⟩
theorem wcX_mixTold : Cond.code yX_mixTold prog_1_method_38_code 6 (some .long) ∈ am_tbl := am_m4 (i := 68) rfl rfl
theorem wiX_mixTold : Cond.instanceMethod yX_mixTold ∈ am_tbl := am_m4 (i := 67) rfl rfl
theorem wsX_mixTold : Cond.selects "MilkHorse" yX_mixTold yX_mixTold ∈ am_tbl := am_memS (i := 22) (by decide +kernel) (by decide +kernel)
def yX_mixMinutes : MethodName := ⟨"MilkHorse", "mixMinutes", "(J)J"⟩
theorem wcX_mixMinutes : Cond.code yX_mixMinutes prog_1_method_39_code 7 (some .long) ∈ am_tbl := am_m4 (i := 76) rfl rfl
theorem wiX_mixMinutes : Cond.instanceMethod yX_mixMinutes ∈ am_tbl := am_m4 (i := 75) rfl rfl
theorem wsX_mixMinutes : Cond.selects "MilkHorse" yX_mixMinutes yX_mixMinutes ∈ am_tbl := am_memS (i := 23) (by decide +kernel) (by decide +kernel)
def yX_mixDoor : MethodName := ⟨"MilkHorse", "mixDoor", "(JI)J"⟩
theorem wcX_mixDoor : Cond.code yX_mixDoor prog_1_method_40_code 7 (some .long) ∈ am_tbl := am_m4 (i := 81) rfl rfl
theorem wiX_mixDoor : Cond.instanceMethod yX_mixDoor ∈ am_tbl := am_m4 (i := 80) rfl rfl
theorem wsX_mixDoor : Cond.selects "MilkHorse" yX_mixDoor yX_mixDoor ∈ am_tbl := am_memS (i := 24) (by decide +kernel) (by decide +kernel)
def yM_type : MethodName := ⟨"MilkHorseModel", "type", "(II)I"⟩
theorem wcM_type : Cond.code yM_type prog_13_method_13_code 3 (some .int) ∈ am_tbl := am_m5 (i := 25) rfl rfl
theorem wiM_type : Cond.instanceMethod yM_type ∈ am_tbl := am_m5 (i := 23) rfl rfl
theorem wsM_type : Cond.selects "MilkHorseModel" yM_type yM_type ∈ am_tbl := am_m5 (i := 24) rfl rfl
def yM_isText : MethodName := ⟨"MilkHorseModel", "isText", "(I)Z"⟩
theorem wcM_isText : Cond.code yM_isText prog_13_method_8_code 1 (some .boolean) ∈ am_tbl := am_m5 (i := 28) rfl rfl
theorem wtM_isText : Cond.static yM_isText ∈ am_tbl := am_m5 (i := 27) rfl rfl
def yM_in : MethodName := ⟨"MilkHorseModel", "in", "(III)Z"⟩
theorem wcM_in : Cond.code yM_in prog_13_method_3_code 3 (some .boolean) ∈ am_tbl := am_m5 (i := 31) rfl rfl
theorem wtM_in : Cond.static yM_in ∈ am_tbl := am_m5 (i := 30) rfl rfl
def yM_wipe : MethodName := ⟨"MilkHorseModel", "wipe", "(I)I"⟩
theorem wcM_wipe : Cond.code yM_wipe prog_13_method_14_code 3 (some .int) ∈ am_tbl := am_m5 (i := 35) rfl rfl
theorem wiM_wipe : Cond.instanceMethod yM_wipe ∈ am_tbl := am_m5 (i := 33) rfl rfl
theorem wsM_wipe : Cond.selects "MilkHorseModel" yM_wipe yM_wipe ∈ am_tbl := am_m5 (i := 34) rfl rfl
def yM_undo : MethodName := ⟨"MilkHorseModel", "undo", "(I)I"⟩
theorem wcM_undo : Cond.code yM_undo prog_13_method_15_code 2 (some .int) ∈ am_tbl := am_m5 (i := 39) rfl rfl
theorem wiM_undo : Cond.instanceMethod yM_undo ∈ am_tbl := am_m5 (i := 37) rfl rfl
theorem wsM_undo : Cond.selects "MilkHorseModel" yM_undo yM_undo ∈ am_tbl := am_m5 (i := 38) rfl rfl
def yM_fault : MethodName := ⟨"MilkHorseModel", "fault", "(I)I"⟩
theorem wcM_fault : Cond.code yM_fault prog_13_method_18_code 2 (some .int) ∈ am_tbl := am_m5 (i := 43) rfl rfl
theorem wiM_fault : Cond.instanceMethod yM_fault ∈ am_tbl := am_m5 (i := 41) rfl rfl
theorem wsM_fault : Cond.selects "MilkHorseModel" yM_fault yM_fault ∈ am_tbl := am_m5 (i := 42) rfl rfl
def yM_faultOf : MethodName := ⟨"MilkHorseModel", "faultOf", "(I)I"⟩
theorem wcM_faultOf : Cond.code yM_faultOf prog_13_method_16_code 4 (some .int) ∈ am_tbl := am_m5 (i := 47) rfl rfl
theorem wiM_faultOf : Cond.instanceMethod yM_faultOf ∈ am_tbl := am_m5 (i := 46) rfl rfl
theorem wsM_faultOf : Cond.selects "MilkHorseModel" yM_faultOf yM_faultOf ∈ am_tbl := am_memS (i := 25) (by decide +kernel) (by decide +kernel)
def yM_told : MethodName := ⟨"MilkHorseModel", "told", "(II)I"⟩
theorem wcM_told : Cond.code yM_told prog_13_method_20_code 3 (some .int) ∈ am_tbl := am_m5 (i := 51) rfl rfl
theorem wiM_told : Cond.instanceMethod yM_told ∈ am_tbl := am_m5 (i := 49) rfl rfl
theorem wsM_told : Cond.selects "MilkHorseModel" yM_told yM_told ∈ am_tbl := am_m5 (i := 50) rfl rfl
def yM_isDoor : MethodName := ⟨"MilkHorseModel", "isDoor", "(I)Z"⟩
theorem wcM_isDoor : Cond.code yM_isDoor prog_13_method_10_code 1 (some .boolean) ∈ am_tbl := am_m5 (i := 54) rfl rfl
theorem wtM_isDoor : Cond.static yM_isDoor ∈ am_tbl := am_m5 (i := 53) rfl rfl
def yM_isTwo : MethodName := ⟨"MilkHorseModel", "isTwo", "(I)Z"⟩
theorem wcM_isTwo : Cond.code yM_isTwo prog_13_method_11_code 1 (some .boolean) ∈ am_tbl := am_m5 (i := 57) rfl rfl
theorem wtM_isTwo : Cond.static yM_isTwo ∈ am_tbl := am_m5 (i := 56) rfl rfl
def yM_toldOf : MethodName := ⟨"MilkHorseModel", "toldOf", "(II)I"⟩
theorem wcM_toldOf : Cond.code yM_toldOf prog_13_method_19_code 3 (some .int) ∈ am_tbl := am_m5 (i := 61) rfl rfl
theorem wiM_toldOf : Cond.instanceMethod yM_toldOf ∈ am_tbl := am_m5 (i := 60) rfl rfl
theorem wsM_toldOf : Cond.selects "MilkHorseModel" yM_toldOf yM_toldOf ∈ am_tbl := am_memS (i := 26) (by decide +kernel) (by decide +kernel)
def yM_reads : MethodName := ⟨"MilkHorseModel", "reads", "()V"⟩
theorem wcM_reads : Cond.code yM_reads prog_13_method_17_code 4 none ∈ am_tbl := am_m5 (i := 65) rfl rfl
theorem wiM_reads : Cond.instanceMethod yM_reads ∈ am_tbl := am_m5 (i := 64) rfl rfl
theorem wsM_reads : Cond.selects "MilkHorseModel" yM_reads yM_reads ∈ am_tbl := am_memS (i := 27) (by decide +kernel) (by decide +kernel)
def yM_round : MethodName := ⟨"MilkHorseModel", "round", "(I)I"⟩
theorem wcM_round : Cond.code yM_round prog_13_method_22_code 2 (some .int) ∈ am_tbl := am_m5 (i := 69) rfl rfl
theorem wiM_round : Cond.instanceMethod yM_round ∈ am_tbl := am_m5 (i := 67) rfl rfl
theorem wsM_round : Cond.selects "MilkHorseModel" yM_round yM_round ∈ am_tbl := am_m5 (i := 68) rfl rfl
def yM_roundOf : MethodName := ⟨"MilkHorseModel", "roundOf", "(I)I"⟩
theorem wcM_roundOf : Cond.code yM_roundOf prog_13_method_21_code 2 (some .int) ∈ am_tbl := am_m5 (i := 73) rfl rfl
theorem wiM_roundOf : Cond.instanceMethod yM_roundOf ∈ am_tbl := am_m5 (i := 72) rfl rfl
theorem wsM_roundOf : Cond.selects "MilkHorseModel" yM_roundOf yM_roundOf ∈ am_tbl := am_memS (i := 28) (by decide +kernel) (by decide +kernel)
def yM_set : MethodName := ⟨"MilkHorseModel", "set", "(II)I"⟩
theorem wcM_set : Cond.code yM_set prog_13_method_23_code 4 (some .int) ∈ am_tbl := am_m5 (i := 77) rfl rfl
theorem wiM_set : Cond.instanceMethod yM_set ∈ am_tbl := am_m5 (i := 75) rfl rfl
theorem wsM_set : Cond.selects "MilkHorseModel" yM_set yM_set ∈ am_tbl := am_m5 (i := 76) rfl rfl
def yM_isThree : MethodName := ⟨"MilkHorseModel", "isThree", "(I)Z"⟩
theorem wcM_isThree : Cond.code yM_isThree prog_13_method_12_code 1 (some .boolean) ∈ am_tbl := am_m5 (i := 80) rfl rfl
theorem wtM_isThree : Cond.static yM_isThree ∈ am_tbl := am_m5 (i := 79) rfl rfl
def yM_event : MethodName := ⟨"MilkHorseModel", "event", "(III)I"⟩
theorem wcM_event : Cond.code yM_event prog_13_method_24_code 4 (some .int) ∈ am_tbl := am_m5 (i := 84) rfl rfl
theorem wiM_event : Cond.instanceMethod yM_event ∈ am_tbl := am_m5 (i := 82) rfl rfl
theorem wsM_event : Cond.selects "MilkHorseModel" yM_event yM_event ∈ am_tbl := am_m5 (i := 83) rfl rfl
def yM_isMinute : MethodName := ⟨"MilkHorseModel", "isMinute", "(I)Z"⟩
theorem wcM_isMinute : Cond.code yM_isMinute prog_13_method_9_code 1 (some .boolean) ∈ am_tbl := am_m5 (i := 87) rfl rfl
theorem wtM_isMinute : Cond.static yM_isMinute ∈ am_tbl := am_m5 (i := 86) rfl rfl
def yM_back : MethodName := ⟨"MilkHorseModel", "back", "()I"⟩
theorem wcM_back : Cond.code yM_back prog_13_method_25_code 1 (some .int) ∈ am_tbl := am_m5 (i := 91) rfl rfl
theorem wiM_back : Cond.instanceMethod yM_back ∈ am_tbl := am_m5 (i := 89) rfl rfl
theorem wsM_back : Cond.selects "MilkHorseModel" yM_back yM_back ∈ am_tbl := am_m5 (i := 90) rfl rfl
def yM_read : MethodName := ⟨"MilkHorseModel", "read", "(I)I"⟩
theorem wcM_read : Cond.code yM_read prog_13_method_26_code 4 (some .int) ∈ am_tbl := am_m5 (i := 95) rfl rfl
theorem wiM_read : Cond.instanceMethod yM_read ∈ am_tbl := am_m5 (i := 93) rfl rfl
theorem wsM_read : Cond.selects "MilkHorseModel" yM_read yM_read ∈ am_tbl := am_m5 (i := 94) rfl rfl
def yM_isSheet : MethodName := ⟨"MilkHorseModel", "isSheet", "(I)Z"⟩
theorem wcM_isSheet : Cond.code yM_isSheet prog_13_method_83_code 1 (some .boolean) ∈ am_tbl := am_m5 (i := 98) rfl rfl
theorem wtM_isSheet : Cond.static yM_isSheet ∈ am_tbl := am_m5 (i := 97) rfl rfl
def yM_meets : MethodName := ⟨"MilkHorseModel", "meets", "(I)I"⟩
theorem wcM_meets : Cond.code yM_meets prog_13_method_82_code 2 (some .int) ∈ am_tbl := am_m5 (i := 102) rfl rfl
theorem wiM_meets : Cond.instanceMethod yM_meets ∈ am_tbl := am_m5 (i := 101) rfl rfl
theorem wsM_meets : Cond.selects "MilkHorseModel" yM_meets yM_meets ∈ am_tbl := am_memS (i := 29) (by decide +kernel) (by decide +kernel)
def yM_at : MethodName := ⟨"MilkHorseModel", "at", "(II)I"⟩
theorem wcM_at : Cond.code yM_at prog_13_method_41_code 3 (some .int) ∈ am_tbl := am_m5 (i := 107) rfl rfl
theorem wiM_at : Cond.instanceMethod yM_at ∈ am_tbl := am_m5 (i := 105) rfl rfl
theorem wsM_at : Cond.selects "MilkHorseModel" yM_at yM_at ∈ am_tbl := am_m5 (i := 106) rfl rfl
def yM_atOf : MethodName := ⟨"MilkHorseModel", "atOf", "(II)I"⟩
theorem wcM_atOf : Cond.code yM_atOf prog_13_method_40_code 3 (some .int) ∈ am_tbl := am_m5 (i := 111) rfl rfl
theorem wiM_atOf : Cond.instanceMethod yM_atOf ∈ am_tbl := am_m5 (i := 110) rfl rfl
theorem wsM_atOf : Cond.selects "MilkHorseModel" yM_atOf yM_atOf ∈ am_tbl := am_memS (i := 30) (by decide +kernel) (by decide +kernel)
def yM_runsTold : MethodName := ⟨"MilkHorseModel", "runsTold", "()V"⟩
theorem wcM_runsTold : Cond.code yM_runsTold prog_13_method_39_code 1 none ∈ am_tbl := am_m5 (i := 115) rfl rfl
theorem wiM_runsTold : Cond.instanceMethod yM_runsTold ∈ am_tbl := am_m5 (i := 114) rfl rfl
theorem wsM_runsTold : Cond.selects "MilkHorseModel" yM_runsTold yM_runsTold ∈ am_tbl := am_memS (i := 31) (by decide +kernel) (by decide +kernel)
def yM_asTold : MethodName := ⟨"MilkHorseModel", "asTold", "()V"⟩
theorem wcM_asTold : Cond.code yM_asTold prog_13_method_27_code 2 none ∈ am_tbl := am_m5 (i := 119) rfl rfl
theorem wiM_asTold : Cond.instanceMethod yM_asTold ∈ am_tbl := am_m5 (i := 118) rfl rfl
theorem wsM_asTold : Cond.selects "MilkHorseModel" yM_asTold yM_asTold ∈ am_tbl := am_memS (i := 32) (by decide +kernel) (by decide +kernel)
def yM_runs : MethodName := ⟨"MilkHorseModel", "runs", "()V"⟩
theorem wcM_runs : Cond.code yM_runs prog_13_method_38_code 1 none ∈ am_tbl := am_m5 (i := 123) rfl rfl
theorem wiM_runs : Cond.instanceMethod yM_runs ∈ am_tbl := am_m5 (i := 122) rfl rfl
theorem wsM_runs : Cond.selects "MilkHorseModel" yM_runs yM_runs ∈ am_tbl := am_memS (i := 33) (by decide +kernel) (by decide +kernel)
def yM_runsBy : MethodName := ⟨"MilkHorseModel", "runsBy", "(I)V"⟩
theorem wcM_runsBy : Cond.code yM_runsBy prog_13_method_37_code 3 none ∈ am_tbl := am_m5 (i := 127) rfl rfl
theorem wiM_runsBy : Cond.instanceMethod yM_runsBy ∈ am_tbl := am_m5 (i := 126) rfl rfl
theorem wsM_runsBy : Cond.selects "MilkHorseModel" yM_runsBy yM_runsBy ∈ am_tbl := am_memS (i := 34) (by decide +kernel) (by decide +kernel)
def yM_goesBy : MethodName := ⟨"MilkHorseModel", "goesBy", "(I)V"⟩
theorem wcM_goesBy : Cond.code yM_goesBy prog_13_method_36_code 3 none ∈ am_tbl := am_m5 (i := 131) rfl rfl
theorem wiM_goesBy : Cond.instanceMethod yM_goesBy ∈ am_tbl := am_m5 (i := 130) rfl rfl
theorem wsM_goesBy : Cond.selects "MilkHorseModel" yM_goesBy yM_goesBy ∈ am_tbl := am_memS (i := 35) (by decide +kernel) (by decide +kernel)
def yM_befalls : MethodName := ⟨"MilkHorseModel", "befalls", "(I)V"⟩
theorem wcM_befalls : Cond.code yM_befalls prog_13_method_29_code 5 none ∈ am_tbl := am_m5 (i := 135) rfl rfl
theorem wiM_befalls : Cond.instanceMethod yM_befalls ∈ am_tbl := am_m5 (i := 134) rfl rfl
theorem wsM_befalls : Cond.selects "MilkHorseModel" yM_befalls yM_befalls ∈ am_tbl := am_memS (i := 36) (by decide +kernel) (by decide +kernel)
def yM_isIn : MethodName := ⟨"MilkHorseModel", "isIn", "(II)Z"⟩
theorem wcM_isIn : Cond.code yM_isIn prog_13_method_4_code 2 (some .boolean) ∈ am_tbl := am_m5 (i := 138) rfl rfl
theorem wtM_isIn : Cond.static yM_isIn ∈ am_tbl := am_m5 (i := 137) rfl rfl
def yM_towards : MethodName := ⟨"MilkHorseModel", "towards", "(II)I"⟩
theorem wcM_towards : Cond.code yM_towards prog_13_method_28_code 2 (some .int) ∈ am_tbl := am_m5 (i := 141) rfl rfl
theorem wtM_towards : Cond.static yM_towards ∈ am_tbl := am_m5 (i := 140) rfl rfl
def yM_does : MethodName := ⟨"MilkHorseModel", "does", "()I"⟩
theorem wcM_does : Cond.code yM_does prog_13_method_34_code 4 (some .int) ∈ am_tbl := am_m5 (i := 145) rfl rfl
theorem wiM_does : Cond.instanceMethod yM_does ∈ am_tbl := am_m5 (i := 144) rfl rfl
theorem wsM_does : Cond.selects "MilkHorseModel" yM_does yM_does ∈ am_tbl := am_memS (i := 37) (by decide +kernel) (by decide +kernel)
def yM_wanting : MethodName := ⟨"MilkHorseModel", "wanting", "(I)I"⟩
theorem wcM_wanting : Cond.code yM_wanting prog_13_method_30_code 2 (some .int) ∈ am_tbl := am_m5 (i := 149) rfl rfl
theorem wiM_wanting : Cond.instanceMethod yM_wanting ∈ am_tbl := am_m5 (i := 148) rfl rfl
theorem wsM_wanting : Cond.selects "MilkHorseModel" yM_wanting yM_wanting ∈ am_tbl := am_memS (i := 38) (by decide +kernel) (by decide +kernel)
def yM_goes : MethodName := ⟨"MilkHorseModel", "goes", "(I)I"⟩
theorem wcM_goes : Cond.code yM_goes prog_13_method_33_code 3 (some .int) ∈ am_tbl := am_m5 (i := 153) rfl rfl
theorem wiM_goes : Cond.instanceMethod yM_goes ∈ am_tbl := am_m5 (i := 152) rfl rfl
theorem wsM_goes : Cond.selects "MilkHorseModel" yM_goes yM_goes ∈ am_tbl := am_memS (i := 39) (by decide +kernel) (by decide +kernel)
def yM_fills : MethodName := ⟨"MilkHorseModel", "fills", "()I"⟩
theorem wcM_fills : Cond.code yM_fills prog_13_method_31_code 2 (some .int) ∈ am_tbl := am_m5 (i := 157) rfl rfl
theorem wiM_fills : Cond.instanceMethod yM_fills ∈ am_tbl := am_m5 (i := 156) rfl rfl
theorem wsM_fills : Cond.selects "MilkHorseModel" yM_fills yM_fills ∈ am_tbl := am_memS (i := 40) (by decide +kernel) (by decide +kernel)
def yM_less : MethodName := ⟨"MilkHorseModel", "less", "(II)I"⟩
theorem wcM_less : Cond.code yM_less prog_13_method_6_code 2 (some .int) ∈ am_tbl := am_m5 (i := 160) rfl rfl
theorem wtM_less : Cond.static yM_less ∈ am_tbl := am_m5 (i := 159) rfl rfl
def yM_serves : MethodName := ⟨"MilkHorseModel", "serves", "(I)I"⟩
theorem wcM_serves : Cond.code yM_serves prog_13_method_32_code 4 (some .int) ∈ am_tbl := am_m5 (i := 164) rfl rfl
theorem wiM_serves : Cond.instanceMethod yM_serves ∈ am_tbl := am_m5 (i := 163) rfl rfl
theorem wsM_serves : Cond.selects "MilkHorseModel" yM_serves yM_serves ∈ am_tbl := am_memS (i := 41) (by decide +kernel) (by decide +kernel)
def yM_follows : MethodName := ⟨"MilkHorseModel", "follows", "(I)V"⟩
theorem wcM_follows : Cond.code yM_follows prog_13_method_35_code 4 none ∈ am_tbl := am_m5 (i := 168) rfl rfl
theorem wiM_follows : Cond.instanceMethod yM_follows ∈ am_tbl := am_m5 (i := 167) rfl rfl
theorem wsM_follows : Cond.selects "MilkHorseModel" yM_follows yM_follows ∈ am_tbl := am_memS (i := 42) (by decide +kernel) (by decide +kernel)
def yM_door : MethodName := ⟨"MilkHorseModel", "door", "(III)I"⟩
theorem wcM_door : Cond.code yM_door prog_13_method_43_code 4 (some .int) ∈ am_tbl := am_m5 (i := 172) rfl rfl
theorem wiM_door : Cond.instanceMethod yM_door ∈ am_tbl := am_m5 (i := 170) rfl rfl
theorem wsM_door : Cond.selects "MilkHorseModel" yM_door yM_door ∈ am_tbl := am_m5 (i := 171) rfl rfl
def yM_doorOf : MethodName := ⟨"MilkHorseModel", "doorOf", "(III)I"⟩
theorem wcM_doorOf : Cond.code yM_doorOf prog_13_method_42_code 4 (some .int) ∈ am_tbl := am_m5 (i := 176) rfl rfl
theorem wiM_doorOf : Cond.instanceMethod yM_doorOf ∈ am_tbl := am_m5 (i := 175) rfl rfl
theorem wsM_doorOf : Cond.selects "MilkHorseModel" yM_doorOf yM_doorOf ∈ am_tbl := am_memS (i := 43) (by decide +kernel) (by decide +kernel)
def yM_done : MethodName := ⟨"MilkHorseModel", "done", "(I)I"⟩
theorem wcM_done : Cond.code yM_done prog_13_method_45_code 2 (some .int) ∈ am_tbl := am_m5 (i := 180) rfl rfl
theorem wiM_done : Cond.instanceMethod yM_done ∈ am_tbl := am_m5 (i := 178) rfl rfl
theorem wsM_done : Cond.selects "MilkHorseModel" yM_done yM_done ∈ am_tbl := am_m5 (i := 179) rfl rfl
def yM_doneOf : MethodName := ⟨"MilkHorseModel", "doneOf", "(I)I"⟩
theorem wcM_doneOf : Cond.code yM_doneOf prog_13_method_44_code 2 (some .int) ∈ am_tbl := am_m5 (i := 184) rfl rfl
theorem wiM_doneOf : Cond.instanceMethod yM_doneOf ∈ am_tbl := am_m5 (i := 183) rfl rfl
theorem wsM_doneOf : Cond.selects "MilkHorseModel" yM_doneOf yM_doneOf ∈ am_tbl := am_memS (i := 44) (by decide +kernel) (by decide +kernel)
def yM_sum : MethodName := ⟨"MilkHorseModel", "sum", "(I)I"⟩
theorem wcM_sum : Cond.code yM_sum prog_13_method_47_code 2 (some .int) ∈ am_tbl := am_m5 (i := 188) rfl rfl
theorem wiM_sum : Cond.instanceMethod yM_sum ∈ am_tbl := am_m5 (i := 186) rfl rfl
theorem wsM_sum : Cond.selects "MilkHorseModel" yM_sum yM_sum ∈ am_tbl := am_m5 (i := 187) rfl rfl
def yM_sumOf : MethodName := ⟨"MilkHorseModel", "sumOf", "(I)I"⟩
theorem wcM_sumOf : Cond.code yM_sumOf prog_13_method_46_code 2 (some .int) ∈ am_tbl := am_m5 (i := 192) rfl rfl
theorem wiM_sumOf : Cond.instanceMethod yM_sumOf ∈ am_tbl := am_m5 (i := 191) rfl rfl
theorem wsM_sumOf : Cond.selects "MilkHorseModel" yM_sumOf yM_sumOf ∈ am_tbl := am_memS (i := 45) (by decide +kernel) (by decide +kernel)
def yM_over : MethodName := ⟨"MilkHorseModel", "over", "()I"⟩
theorem wcM_over : Cond.code yM_over prog_13_method_49_code 1 (some .int) ∈ am_tbl := am_m5 (i := 196) rfl rfl
theorem wiM_over : Cond.instanceMethod yM_over ∈ am_tbl := am_m5 (i := 194) rfl rfl
theorem wsM_over : Cond.selects "MilkHorseModel" yM_over yM_over ∈ am_tbl := am_m5 (i := 195) rfl rfl
def yM_overOf : MethodName := ⟨"MilkHorseModel", "overOf", "()I"⟩
theorem wcM_overOf : Cond.code yM_overOf prog_13_method_48_code 1 (some .int) ∈ am_tbl := am_m5 (i := 200) rfl rfl
theorem wiM_overOf : Cond.instanceMethod yM_overOf ∈ am_tbl := am_m5 (i := 199) rfl rfl
theorem wsM_overOf : Cond.selects "MilkHorseModel" yM_overOf yM_overOf ∈ am_tbl := am_memS (i := 46) (by decide +kernel) (by decide +kernel)
def yM_lacks : MethodName := ⟨"MilkHorseModel", "lacks", "()I"⟩
theorem wcM_lacks : Cond.code yM_lacks prog_13_method_53_code 1 (some .int) ∈ am_tbl := am_m5 (i := 204) rfl rfl
theorem wiM_lacks : Cond.instanceMethod yM_lacks ∈ am_tbl := am_m5 (i := 202) rfl rfl
theorem wsM_lacks : Cond.selects "MilkHorseModel" yM_lacks yM_lacks ∈ am_tbl := am_m5 (i := 203) rfl rfl
def yM_lacksOf : MethodName := ⟨"MilkHorseModel", "lacksOf", "()I"⟩
theorem wcM_lacksOf : Cond.code yM_lacksOf prog_13_method_52_code 1 (some .int) ∈ am_tbl := am_m5 (i := 208) rfl rfl
theorem wiM_lacksOf : Cond.instanceMethod yM_lacksOf ∈ am_tbl := am_m5 (i := 207) rfl rfl
theorem wsM_lacksOf : Cond.selects "MilkHorseModel" yM_lacksOf yM_lacksOf ∈ am_tbl := am_memS (i := 47) (by decide +kernel) (by decide +kernel)
def yM_shortNow : MethodName := ⟨"MilkHorseModel", "shortNow", "()I"⟩
theorem wcM_shortNow : Cond.code yM_shortNow prog_13_method_50_code 3 (some .int) ∈ am_tbl := am_m5 (i := 212) rfl rfl
theorem wiM_shortNow : Cond.instanceMethod yM_shortNow ∈ am_tbl := am_m5 (i := 211) rfl rfl
theorem wsM_shortNow : Cond.selects "MilkHorseModel" yM_shortNow yM_shortNow ∈ am_tbl := am_memS (i := 48) (by decide +kernel) (by decide +kernel)
def yM_better : MethodName := ⟨"MilkHorseModel", "better", "(I)I"⟩
theorem wcM_better : Cond.code yM_better prog_13_method_57_code 2 (some .int) ∈ am_tbl := am_m5 (i := 216) rfl rfl
theorem wiM_better : Cond.instanceMethod yM_better ∈ am_tbl := am_m5 (i := 214) rfl rfl
theorem wsM_better : Cond.selects "MilkHorseModel" yM_better yM_better ∈ am_tbl := am_m5 (i := 215) rfl rfl
def yM_betterOf : MethodName := ⟨"MilkHorseModel", "betterOf", "(I)I"⟩
theorem wcM_betterOf : Cond.code yM_betterOf prog_13_method_56_code 3 (some .int) ∈ am_tbl := am_m5 (i := 220) rfl rfl
theorem wiM_betterOf : Cond.instanceMethod yM_betterOf ∈ am_tbl := am_m5 (i := 219) rfl rfl
theorem wsM_betterOf : Cond.selects "MilkHorseModel" yM_betterOf yM_betterOf ∈ am_tbl := am_memS (i := 49) (by decide +kernel) (by decide +kernel)
def yM_starts : MethodName := ⟨"MilkHorseModel", "starts", "()V"⟩
theorem wcM_starts : Cond.code yM_starts prog_13_method_54_code 1 none ∈ am_tbl := am_m5 (i := 224) rfl rfl
theorem wiM_starts : Cond.instanceMethod yM_starts ∈ am_tbl := am_m5 (i := 223) rfl rfl
theorem wsM_starts : Cond.selects "MilkHorseModel" yM_starts yM_starts ∈ am_tbl := am_memS (i := 50) (by decide +kernel) (by decide +kernel)
def yM_tries : MethodName := ⟨"MilkHorseModel", "tries", "(I)V"⟩
theorem wcM_tries : Cond.code yM_tries prog_13_method_55_code 3 none ∈ am_tbl := am_m5 (i := 228) rfl rfl
theorem wiM_tries : Cond.instanceMethod yM_tries ∈ am_tbl := am_m5 (i := 227) rfl rfl
theorem wsM_tries : Cond.selects "MilkHorseModel" yM_tries yM_tries ∈ am_tbl := am_memS (i := 51) (by decide +kernel) (by decide +kernel)
def yM_manyShort : MethodName := ⟨"MilkHorseModel", "manyShort", "()I"⟩
theorem wcM_manyShort : Cond.code yM_manyShort prog_13_method_51_code 3 (some .int) ∈ am_tbl := am_m5 (i := 232) rfl rfl
theorem wiM_manyShort : Cond.instanceMethod yM_manyShort ∈ am_tbl := am_m5 (i := 231) rfl rfl
theorem wsM_manyShort : Cond.selects "MilkHorseModel" yM_manyShort yM_manyShort ∈ am_tbl := am_memS (i := 52) (by decide +kernel) (by decide +kernel)
def yM_fit : MethodName := ⟨"MilkHorseModel", "fit", "(I)I"⟩
theorem wcM_fit : Cond.code yM_fit prog_13_method_59_code 2 (some .int) ∈ am_tbl := am_m5 (i := 236) rfl rfl
theorem wiM_fit : Cond.instanceMethod yM_fit ∈ am_tbl := am_m5 (i := 234) rfl rfl
theorem wsM_fit : Cond.selects "MilkHorseModel" yM_fit yM_fit ∈ am_tbl := am_m5 (i := 235) rfl rfl
def yM_fitOf : MethodName := ⟨"MilkHorseModel", "fitOf", "(I)I"⟩
theorem wcM_fitOf : Cond.code yM_fitOf prog_13_method_58_code 3 (some .int) ∈ am_tbl := am_m6 (i := 0) rfl rfl
theorem wiM_fitOf : Cond.instanceMethod yM_fitOf ∈ am_tbl := am_m5 (i := 239) rfl rfl
theorem wsM_fitOf : Cond.selects "MilkHorseModel" yM_fitOf yM_fitOf ∈ am_tbl := am_memS (i := 53) (by decide +kernel) (by decide +kernel)
def yM_swap : MethodName := ⟨"MilkHorseModel", "swap", "(I)I"⟩
theorem wcM_swap : Cond.code yM_swap prog_13_method_61_code 2 (some .int) ∈ am_tbl := am_m6 (i := 4) rfl rfl
theorem wiM_swap : Cond.instanceMethod yM_swap ∈ am_tbl := am_m6 (i := 2) rfl rfl
theorem wsM_swap : Cond.selects "MilkHorseModel" yM_swap yM_swap ∈ am_tbl := am_m6 (i := 3) rfl rfl
def yM_swapOf : MethodName := ⟨"MilkHorseModel", "swapOf", "(I)I"⟩
theorem wcM_swapOf : Cond.code yM_swapOf prog_13_method_60_code 4 (some .int) ∈ am_tbl := am_m6 (i := 8) rfl rfl
theorem wiM_swapOf : Cond.instanceMethod yM_swapOf ∈ am_tbl := am_m6 (i := 7) rfl rfl
theorem wsM_swapOf : Cond.selects "MilkHorseModel" yM_swapOf yM_swapOf ∈ am_tbl := am_memS (i := 54) (by decide +kernel) (by decide +kernel)
def yM_spare : MethodName := ⟨"MilkHorseModel", "spare", "(I)I"⟩
theorem wcM_spare : Cond.code yM_spare prog_13_method_65_code 2 (some .int) ∈ am_tbl := am_m6 (i := 12) rfl rfl
theorem wiM_spare : Cond.instanceMethod yM_spare ∈ am_tbl := am_m6 (i := 10) rfl rfl
theorem wsM_spare : Cond.selects "MilkHorseModel" yM_spare yM_spare ∈ am_tbl := am_m6 (i := 11) rfl rfl
def yM_spareBy : MethodName := ⟨"MilkHorseModel", "spareBy", "()I"⟩
theorem wcM_spareBy : Cond.code yM_spareBy prog_13_method_63_code 3 (some .int) ∈ am_tbl := am_m6 (i := 16) rfl rfl
theorem wiM_spareBy : Cond.instanceMethod yM_spareBy ∈ am_tbl := am_m6 (i := 15) rfl rfl
theorem wsM_spareBy : Cond.selects "MilkHorseModel" yM_spareBy yM_spareBy ∈ am_tbl := am_memS (i := 55) (by decide +kernel) (by decide +kernel)
def yM_isSpared : MethodName := ⟨"MilkHorseModel", "isSpared", "(I)Z"⟩
theorem wcM_isSpared : Cond.code yM_isSpared prog_13_method_62_code 2 (some .boolean) ∈ am_tbl := am_m6 (i := 20) rfl rfl
theorem wiM_isSpared : Cond.instanceMethod yM_isSpared ∈ am_tbl := am_m6 (i := 19) rfl rfl
theorem wsM_isSpared : Cond.selects "MilkHorseModel" yM_isSpared yM_isSpared ∈ am_tbl := am_memS (i := 56) (by decide +kernel) (by decide +kernel)
def yM_ofRow : MethodName := ⟨"MilkHorseModel", "ofRow", "(II)I"⟩
theorem wcM_ofRow : Cond.code yM_ofRow prog_13_method_64_code 3 (some .int) ∈ am_tbl := am_m6 (i := 24) rfl rfl
theorem wiM_ofRow : Cond.instanceMethod yM_ofRow ∈ am_tbl := am_m6 (i := 23) rfl rfl
theorem wsM_ofRow : Cond.selects "MilkHorseModel" yM_ofRow yM_ofRow ∈ am_tbl := am_memS (i := 57) (by decide +kernel) (by decide +kernel)
def yM_seen : MethodName := ⟨"MilkHorseModel", "seen", "(II)I"⟩
theorem wcM_seen : Cond.code yM_seen prog_13_method_66_code 3 (some .int) ∈ am_tbl := am_m6 (i := 28) rfl rfl
theorem wiM_seen : Cond.instanceMethod yM_seen ∈ am_tbl := am_m6 (i := 26) rfl rfl
theorem wsM_seen : Cond.selects "MilkHorseModel" yM_seen yM_seen ∈ am_tbl := am_m6 (i := 27) rfl rfl
def yM_forget : MethodName := ⟨"MilkHorseModel", "forget", "()I"⟩
theorem wcM_forget : Cond.code yM_forget prog_13_method_67_code 2 (some .int) ∈ am_tbl := am_m6 (i := 32) rfl rfl
theorem wiM_forget : Cond.instanceMethod yM_forget ∈ am_tbl := am_m6 (i := 30) rfl rfl
theorem wsM_forget : Cond.selects "MilkHorseModel" yM_forget yM_forget ∈ am_tbl := am_m6 (i := 31) rfl rfl
def yM_never : MethodName := ⟨"MilkHorseModel", "never", "()I"⟩
theorem wcM_never : Cond.code yM_never prog_13_method_70_code 1 (some .int) ∈ am_tbl := am_m6 (i := 36) rfl rfl
theorem wiM_never : Cond.instanceMethod yM_never ∈ am_tbl := am_m6 (i := 34) rfl rfl
theorem wsM_never : Cond.selects "MilkHorseModel" yM_never yM_never ∈ am_tbl := am_m6 (i := 35) rfl rfl
def yM_neverNow : MethodName := ⟨"MilkHorseModel", "neverNow", "()I"⟩
theorem wcM_neverNow : Cond.code yM_neverNow prog_13_method_69_code 3 (some .int) ∈ am_tbl := am_m6 (i := 40) rfl rfl
theorem wiM_neverNow : Cond.instanceMethod yM_neverNow ∈ am_tbl := am_m6 (i := 39) rfl rfl
theorem wsM_neverNow : Cond.selects "MilkHorseModel" yM_neverNow yM_neverNow ∈ am_tbl := am_memS (i := 58) (by decide +kernel) (by decide +kernel)
def yM_isSeen : MethodName := ⟨"MilkHorseModel", "isSeen", "()Z"⟩
theorem wcM_isSeen : Cond.code yM_isSeen prog_13_method_68_code 3 (some .boolean) ∈ am_tbl := am_m6 (i := 44) rfl rfl
theorem wiM_isSeen : Cond.instanceMethod yM_isSeen ∈ am_tbl := am_m6 (i := 43) rfl rfl
theorem wsM_isSeen : Cond.selects "MilkHorseModel" yM_isSeen yM_isSeen ∈ am_tbl := am_memS (i := 59) (by decide +kernel) (by decide +kernel)
def yM_numbers : MethodName := ⟨"MilkHorseModel", "numbers", "(I)I"⟩
theorem wcM_numbers : Cond.code yM_numbers prog_13_method_72_code 2 (some .int) ∈ am_tbl := am_m6 (i := 48) rfl rfl
theorem wiM_numbers : Cond.instanceMethod yM_numbers ∈ am_tbl := am_m6 (i := 46) rfl rfl
theorem wsM_numbers : Cond.selects "MilkHorseModel" yM_numbers yM_numbers ∈ am_tbl := am_m6 (i := 47) rfl rfl
def yM_numbersBy : MethodName := ⟨"MilkHorseModel", "numbersBy", "(I)I"⟩
theorem wcM_numbersBy : Cond.code yM_numbersBy prog_13_method_71_code 4 (some .int) ∈ am_tbl := am_m6 (i := 52) rfl rfl
theorem wiM_numbersBy : Cond.instanceMethod yM_numbersBy ∈ am_tbl := am_m6 (i := 51) rfl rfl
theorem wsM_numbersBy : Cond.selects "MilkHorseModel" yM_numbersBy yM_numbersBy ∈ am_tbl := am_memS (i := 60) (by decide +kernel) (by decide +kernel)
def yM_might : MethodName := ⟨"MilkHorseModel", "might", "(I)I"⟩
theorem wcM_might : Cond.code yM_might prog_13_method_75_code 2 (some .int) ∈ am_tbl := am_m6 (i := 56) rfl rfl
theorem wiM_might : Cond.instanceMethod yM_might ∈ am_tbl := am_m6 (i := 54) rfl rfl
theorem wsM_might : Cond.selects "MilkHorseModel" yM_might yM_might ∈ am_tbl := am_m6 (i := 55) rfl rfl
def yM_kindsBy : MethodName := ⟨"MilkHorseModel", "kindsBy", "()I"⟩
theorem wcM_kindsBy : Cond.code yM_kindsBy prog_13_method_73_code 3 (some .int) ∈ am_tbl := am_m6 (i := 60) rfl rfl
theorem wiM_kindsBy : Cond.instanceMethod yM_kindsBy ∈ am_tbl := am_m6 (i := 59) rfl rfl
theorem wsM_kindsBy : Cond.selects "MilkHorseModel" yM_kindsBy yM_kindsBy ∈ am_tbl := am_memS (i := 61) (by decide +kernel) (by decide +kernel)
def yM_roomsBy : MethodName := ⟨"MilkHorseModel", "roomsBy", "()I"⟩
theorem wcM_roomsBy : Cond.code yM_roomsBy prog_13_method_74_code 4 (some .int) ∈ am_tbl := am_m6 (i := 64) rfl rfl
theorem wiM_roomsBy : Cond.instanceMethod yM_roomsBy ∈ am_tbl := am_m6 (i := 63) rfl rfl
theorem wsM_roomsBy : Cond.selects "MilkHorseModel" yM_roomsBy yM_roomsBy ∈ am_tbl := am_memS (i := 62) (by decide +kernel) (by decide +kernel)
def yM_ask : MethodName := ⟨"MilkHorseModel", "ask", "()I"⟩
theorem wcM_ask : Cond.code yM_ask prog_13_method_77_code 1 (some .int) ∈ am_tbl := am_m6 (i := 68) rfl rfl
theorem wiM_ask : Cond.instanceMethod yM_ask ∈ am_tbl := am_m6 (i := 66) rfl rfl
theorem wsM_ask : Cond.selects "MilkHorseModel" yM_ask yM_ask ∈ am_tbl := am_m6 (i := 67) rfl rfl
def yM_askOf : MethodName := ⟨"MilkHorseModel", "askOf", "()I"⟩
theorem wcM_askOf : Cond.code yM_askOf prog_13_method_76_code 9 (some .int) ∈ am_tbl := am_m6 (i := 72) rfl rfl
theorem wiM_askOf : Cond.instanceMethod yM_askOf ∈ am_tbl := am_m6 (i := 71) rfl rfl
theorem wsM_askOf : Cond.selects "MilkHorseModel" yM_askOf yM_askOf ∈ am_tbl := am_memS (i := 63) (by decide +kernel) (by decide +kernel)
def yM_chance : MethodName := ⟨"MilkHorseModel", "chance", "(III)J"⟩
theorem wcM_chance : Cond.code yM_chance prog_13_method_79_code 4 (some .long) ∈ am_tbl := am_m6 (i := 76) rfl rfl
theorem wiM_chance : Cond.instanceMethod yM_chance ∈ am_tbl := am_m6 (i := 74) rfl rfl
theorem wsM_chance : Cond.selects "MilkHorseModel" yM_chance yM_chance ∈ am_tbl := am_m6 (i := 75) rfl rfl
def yM_chanceOf : MethodName := ⟨"MilkHorseModel", "chanceOf", "(III)J"⟩
theorem wcM_chanceOf : Cond.code yM_chanceOf prog_13_method_78_code 10 (some .long) ∈ am_tbl := am_m6 (i := 80) rfl rfl
theorem wiM_chanceOf : Cond.instanceMethod yM_chanceOf ∈ am_tbl := am_m6 (i := 79) rfl rfl
theorem wsM_chanceOf : Cond.selects "MilkHorseModel" yM_chanceOf yM_chanceOf ∈ am_tbl := am_memS (i := 64) (by decide +kernel) (by decide +kernel)
def yM_lowest : MethodName := ⟨"MilkHorseModel", "lowest", "(JJI)J"⟩
theorem wcM_lowest : Cond.code yM_lowest prog_13_method_7_code 11 (some .long) ∈ am_tbl := am_m6 (i := 83) rfl rfl
theorem wtM_lowest : Cond.static yM_lowest ∈ am_tbl := am_m6 (i := 82) rfl rfl
def yM_no : MethodName := ⟨"MilkHorseModel", "no", "(I)J"⟩
theorem wcM_no : Cond.code yM_no prog_13_method_5_code 1 (some .long) ∈ am_tbl := am_m6 (i := 86) rfl rfl
theorem wtM_no : Cond.static yM_no ∈ am_tbl := am_m6 (i := 85) rfl rfl
def yM_mornings : MethodName := ⟨"MilkHorseModel", "mornings", "(III)I"⟩
theorem wcM_mornings : Cond.code yM_mornings prog_13_method_81_code 4 (some .int) ∈ am_tbl := am_m6 (i := 91) rfl rfl
theorem wiM_mornings : Cond.instanceMethod yM_mornings ∈ am_tbl := am_m6 (i := 89) rfl rfl
theorem wsM_mornings : Cond.selects "MilkHorseModel" yM_mornings yM_mornings ∈ am_tbl := am_m6 (i := 90) rfl rfl
def yM_morningsOf : MethodName := ⟨"MilkHorseModel", "morningsOf", "(III)I"⟩
theorem wcM_morningsOf : Cond.code yM_morningsOf prog_13_method_80_code 6 (some .int) ∈ am_tbl := am_m6 (i := 95) rfl rfl
theorem wiM_morningsOf : Cond.instanceMethod yM_morningsOf ∈ am_tbl := am_m6 (i := 94) rfl rfl
theorem wsM_morningsOf : Cond.selects "MilkHorseModel" yM_morningsOf yM_morningsOf ∈ am_tbl := am_memS (i := 65) (by decide +kernel) (by decide +kernel)
def yM_sheet : MethodName := ⟨"MilkHorseModel", "sheet", "(III)I"⟩
theorem wcM_sheet : Cond.code yM_sheet prog_13_method_84_code 5 (some .int) ∈ am_tbl := am_m6 (i := 100) rfl rfl
theorem wiM_sheet : Cond.instanceMethod yM_sheet ∈ am_tbl := am_m6 (i := 98) rfl rfl
theorem wsM_sheet : Cond.selects "MilkHorseModel" yM_sheet yM_sheet ∈ am_tbl := am_m6 (i := 99) rfl rfl
def yM_lose : MethodName := ⟨"MilkHorseModel", "lose", "(I)I"⟩
theorem wcM_lose : Cond.code yM_lose prog_13_method_85_code 2 (some .int) ∈ am_tbl := am_m6 (i := 104) rfl rfl
theorem wiM_lose : Cond.instanceMethod yM_lose ∈ am_tbl := am_m6 (i := 102) rfl rfl
theorem wsM_lose : Cond.selects "MilkHorseModel" yM_lose yM_lose ∈ am_tbl := am_m6 (i := 103) rfl rfl
def yM_put : MethodName := ⟨"MilkHorseModel", "put", "(IIII)I"⟩
theorem wcM_put : Cond.code yM_put prog_13_method_88_code 6 (some .int) ∈ am_tbl := am_m6 (i := 108) rfl rfl
theorem wiM_put : Cond.instanceMethod yM_put ∈ am_tbl := am_m6 (i := 106) rfl rfl
theorem wsM_put : Cond.selects "MilkHorseModel" yM_put yM_put ∈ am_tbl := am_m6 (i := 107) rfl rfl
def yM_lacks3 : MethodName := ⟨"MilkHorseModel", "lacks", "(III)I"⟩
theorem wcM_lacks3 : Cond.code yM_lacks3 prog_13_method_86_code 4 (some .int) ∈ am_tbl := am_m6 (i := 112) rfl rfl
theorem wiM_lacks3 : Cond.instanceMethod yM_lacks3 ∈ am_tbl := am_m6 (i := 111) rfl rfl
theorem wsM_lacks3 : Cond.selects "MilkHorseModel" yM_lacks3 yM_lacks3 ∈ am_tbl := am_memS (i := 66) (by decide +kernel) (by decide +kernel)
def yM_keep : MethodName := ⟨"MilkHorseModel", "keep", "(III)V"⟩
theorem wcM_keep : Cond.code yM_keep prog_13_method_87_code 4 none ∈ am_tbl := am_m6 (i := 116) rfl rfl
theorem wiM_keep : Cond.instanceMethod yM_keep ∈ am_tbl := am_m6 (i := 115) rfl rfl
theorem wsM_keep : Cond.selects "MilkHorseModel" yM_keep yM_keep ∈ am_tbl := am_memS (i := 67) (by decide +kernel) (by decide +kernel)
def yM_get : MethodName := ⟨"MilkHorseModel", "get", "(III)I"⟩
theorem wcM_get : Cond.code yM_get prog_13_method_89_code 5 (some .int) ∈ am_tbl := am_m6 (i := 120) rfl rfl
theorem wiM_get : Cond.instanceMethod yM_get ∈ am_tbl := am_m6 (i := 118) rfl rfl
theorem wsM_get : Cond.selects "MilkHorseModel" yM_get yM_get ∈ am_tbl := am_m6 (i := 119) rfl rfl
def yM_copy : MethodName := ⟨"MilkHorseModel", "copy", "(IIIII)I"⟩
theorem wcM_copy : Cond.code yM_copy prog_13_method_90_code 7 (some .int) ∈ am_tbl := am_m6 (i := 125) rfl rfl
theorem wiM_copy : Cond.instanceMethod yM_copy ∈ am_tbl := am_m6 (i := 123) rfl rfl
theorem wsM_copy : Cond.selects "MilkHorseModel" yM_copy yM_copy ∈ am_tbl := am_m6 (i := 124) rfl rfl
def yM_write : MethodName := ⟨"MilkHorseModel", "write", "(II)I"⟩
theorem wcM_write : Cond.code yM_write prog_13_method_91_code 4 (some .int) ∈ am_tbl := am_m6 (i := 129) rfl rfl
theorem wiM_write : Cond.instanceMethod yM_write ∈ am_tbl := am_m6 (i := 127) rfl rfl
theorem wsM_write : Cond.selects "MilkHorseModel" yM_write yM_write ∈ am_tbl := am_m6 (i := 128) rfl rfl
def yM_count : MethodName := ⟨"MilkHorseModel", "count", "(I)I"⟩
theorem wcM_count : Cond.code yM_count prog_13_method_94_code 2 (some .int) ∈ am_tbl := am_m6 (i := 133) rfl rfl
theorem wiM_count : Cond.instanceMethod yM_count ∈ am_tbl := am_m6 (i := 131) rfl rfl
theorem wsM_count : Cond.selects "MilkHorseModel" yM_count yM_count ∈ am_tbl := am_m6 (i := 132) rfl rfl
def yM_roundsOf : MethodName := ⟨"MilkHorseModel", "roundsOf", "()I"⟩
theorem wcM_roundsOf : Cond.code yM_roundsOf prog_13_method_92_code 1 (some .int) ∈ am_tbl := am_m6 (i := 137) rfl rfl
theorem wiM_roundsOf : Cond.instanceMethod yM_roundsOf ∈ am_tbl := am_m6 (i := 136) rfl rfl
theorem wsM_roundsOf : Cond.selects "MilkHorseModel" yM_roundsOf yM_roundsOf ∈ am_tbl := am_memS (i := 68) (by decide +kernel) (by decide +kernel)
def yM_shortOf : MethodName := ⟨"MilkHorseModel", "shortOf", "()I"⟩
theorem wcM_shortOf : Cond.code yM_shortOf prog_13_method_93_code 1 (some .int) ∈ am_tbl := am_m6 (i := 141) rfl rfl
theorem wiM_shortOf : Cond.instanceMethod yM_shortOf ∈ am_tbl := am_m6 (i := 140) rfl rfl
theorem wsM_shortOf : Cond.selects "MilkHorseModel" yM_shortOf yM_shortOf ∈ am_tbl := am_memS (i := 69) (by decide +kernel) (by decide +kernel)
def yM_digest : MethodName := ⟨"MilkHorseModel", "digest", "()J"⟩
theorem wcM_digest : Cond.code yM_digest prog_13_method_97_code 5 (some .long) ∈ am_tbl := am_m6 (i := 145) rfl rfl
theorem wiM_digest : Cond.instanceMethod yM_digest ∈ am_tbl := am_m6 (i := 143) rfl rfl
theorem wsM_digest : Cond.selects "MilkHorseModel" yM_digest yM_digest ∈ am_tbl := am_m6 (i := 144) rfl rfl
def yM_doorDigest : MethodName := ⟨"MilkHorseModel", "doorDigest", "(JI)J"⟩
theorem wcM_doorDigest : Cond.code yM_doorDigest prog_13_method_95_code 7 (some .long) ∈ am_tbl := am_m6 (i := 152) rfl rfl
theorem wiM_doorDigest : Cond.instanceMethod yM_doorDigest ∈ am_tbl := am_m6 (i := 151) rfl rfl
theorem wsM_doorDigest : Cond.selects "MilkHorseModel" yM_doorDigest yM_doorDigest ∈ am_tbl := am_memS (i := 70) (by decide +kernel) (by decide +kernel)
def yM_planDigest : MethodName := ⟨"MilkHorseModel", "planDigest", "(J)J"⟩
theorem wcM_planDigest : Cond.code yM_planDigest prog_13_method_96_code 6 (some .long) ∈ am_tbl := am_m6 (i := 156) rfl rfl
theorem wiM_planDigest : Cond.instanceMethod yM_planDigest ∈ am_tbl := am_m6 (i := 155) rfl rfl
theorem wsM_planDigest : Cond.selects "MilkHorseModel" yM_planDigest yM_planDigest ∈ am_tbl := am_memS (i := 71) (by decide +kernel) (by decide +kernel)
