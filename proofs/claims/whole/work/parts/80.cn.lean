/-! constructors -/
theorem cn_ca0 {dC : Nat → ClassId} {dI : Nat → Nat → Nat} {cA : Nat → ClassId} {c2 : ClassId} {s : State} (h : va_K (dC, dI) am_cl (am_tys cA ++ [(c2, .int)]) s) : c2 = cA 0 := by
  have h1 : s.vm.findClass ("[" ++ (FieldType.int).toString) = some (cA 0) := (h.2 0 _ rfl).2
  have h2 : s.vm.findClass ("[" ++ (FieldType.int).toString) = some c2 := (h.2 4 _ rfl).2
  exact Option.some.inj (h2.symm.trans h1)
theorem cn_ca1 {dC : Nat → ClassId} {dI : Nat → Nat → Nat} {cA : Nat → ClassId} {c2 : ClassId} {s : State} (h : va_K (dC, dI) am_cl (am_tys cA ++ [(c2, .boolean)]) s) : c2 = cA 1 := by
  have h1 : s.vm.findClass ("[" ++ (FieldType.boolean).toString) = some (cA 1) := (h.2 1 _ rfl).2
  have h2 : s.vm.findClass ("[" ++ (FieldType.boolean).toString) = some c2 := (h.2 4 _ rfl).2
  exact Option.some.inj (h2.symm.trans h1)
theorem cn_ca2 {dC : Nat → ClassId} {dI : Nat → Nat → Nat} {cA : Nat → ClassId} {c2 : ClassId} {s : State} (h : va_K (dC, dI) am_cl (am_tys cA ++ [(c2, .long)]) s) : c2 = cA 2 := by
  have h1 : s.vm.findClass ("[" ++ (FieldType.long).toString) = some (cA 2) := (h.2 2 _ rfl).2
  have h2 : s.vm.findClass ("[" ++ (FieldType.long).toString) = some c2 := (h.2 4 _ rfl).2
  exact Option.some.inj (h2.symm.trans h1)
theorem cn_ca3 {dC : Nat → ClassId} {dI : Nat → Nat → Nat} {cA : Nat → ClassId} {c2 : ClassId} {s : State} (h : va_K (dC, dI) am_cl (am_tys cA ++ [(c2, .object "MilkHorse$Sheet")]) s) : c2 = cA 3 := by
  obtain ⟨_, _, _, _, _, h1⟩ := (h.2 3 _ rfl).2
  obtain ⟨_, _, _, _, _, h2⟩ := (h.2 4 _ rfl).2
  exact Option.some.inj (h2.symm.trans h1)
theorem kwcT : Cond.code (⟨"MilkHorse$Text", "<init>", "(III)V"⟩ : MethodName) prog_10_method_1_code 4 none ∈ am_tbl := am_m1 (i := 29) rfl rfl
set_option maxHeartbeats 4000000 in
set_option maxRecDepth 100000 in
theorem knT (l : Launch) (dC : Nat → ClassId) (dI : Nat → Nat → Nat) (cA : Nat → ClassId) (h0 sz : Nat) (x1 : Int32) (x2 : Int32) (x3 : Int32) : Met l (⟨"MilkHorse$Text", "<init>", "(III)V"⟩ : MethodName) (am_ws (⟨"MilkHorse$Text", "<init>", "(III)V"⟩ : MethodName) prog_10_method_1_code 4 none) ({ frames := 1, cells := 1, slots := 24, locals := 32 }) (va_Pc [.ref h0, .int x1, .int x2, .int x3] (fun U => U.heap.size = sz ∧ va_P (dC, dI) am_cl [(h0, .inr (8, [.null, .int 0, .int 0, .int 0, .int 0]))] U.heap ∧ va_K (dC, dI) am_cl (am_tys cA) U ∧ am_N U ∧ va_D (fun _ => True) [(h0, .inr (8, [.null, .int 0, .int 0, .int 0, .int 0]))])) (va_Qv (fun _ : Unit => True) (fun _ t => ∃ q1 : Nat, va_P (dC, dI) am_cl [(h0, .inr (8, [.ref q1, .int x1, .int x2, .int x3, .int 0])), (q1, .inl (cA 0, 24, .inl (fun _ => 0)))] t.heap ∧ va_D (va_A [(h0, .inr (8, [.null, .int 0, .int 0, .int 0, .int 0]))] sz) [(h0, .inr (8, [.ref q1, .int x1, .int x2, .int x3, .int 0])), (q1, .inl (cA 0, 24, .inl (fun _ => 0)))]) (va_A [(h0, .inr (8, [.null, .int 0, .int 0, .int 0, .int 0]))] sz)) 1 24 (va_A [(h0, .inr (8, [.null, .int 0, .int 0, .int 0, .int 0]))] sz) := by
  refine Met.ofW (cc := prog_10_method_1_code) (maxL := 4) (ret := none) (ws' := am_tbl) (by decide +kernel) rfl ?_
  intro p e s m args below meth c s₁ B hml hv
  obtain ⟨rfl, hsz, hP, hK, hN, hD0⟩ := hv
  have hx := B.exec
  have hb := B.bytes
  have hr := B.returns
  have hts0 := atoms_spec (ws := am_ws (⟨"MilkHorse$Text", "<init>", "(III)V"⟩ : MethodName) prog_10_method_1_code 4 none) B.pre
  have hts : ∀ w ∈ am_tbl, w.before [.ref h0, .int x1, .int x2, .int x3].toArray s = true := fun w hw => hts0 w (List.mem_cons_of_mem _ hw)
  have hown : s.vm.findClass "MilkHorse$Text" = some m.cls := findClass_of_methodNamed B.named
  have hlocks := B.notSynchronized
  have hin : meth.name = "<init>" := (name_of_methodNamed B.named B.method).1
  subst hsz
  have hD := hD0.self (sz := s.heap.size)
  generalize hAe : va_A [(h0, .inr (8, [.null, .int 0, .int 0, .int 0, .int 0]))] s.heap.size = A at hD ⊢
  have hA : ∀ q : Nat, s.heap.size ≤ q → A q := fun q h => by rw [← hAe]; exact Or.inr h
  have hS : va_S A s.heap s.heap [] := va_S.rf
  have hl := lv_entry ([.ref h0, .int x1, .int x2, .int x3]) (n := 4) (Nat.le_of_ble_eq_true rfl)
  rw [lg_entry_eq]
  generalize (lg_sl ([.ref h0, .int x1, .int x2, .int x3]) ++ List.replicate (4 - (lg_sl ([.ref h0, .int x1, .int x2, .int x3])).length) Slot.unset).toArray = ls at hl ⊢
  have hl : lv_has ls 4 [(0, .ref h0), (1, .int x1), (2, .int x2), (3, .int x3)] := hl
  refine lv_aload_n hx hb (by decide +kernel : decode prog_10_method_1_code 0 = .ok (.aload_n 0, 1)) rfl (lv_at hl 0 rfl) ?_
  refine W.objInit hx hb hown (hts _ (am_m1 (i := 30) rfl rfl)) (hts _ (am_m1 (i := 23) rfl rfl)) (hts _ (am_m1 (i := 24) rfl rfl)) rfl (by rw [hml]; exact hl.1) rfl (by decide +kernel : decode prog_10_method_1_code 1 = .ok (.invokespecial 3, 3)) (Nat.le_of_ble_eq_true rfl) (Nat.le_of_ble_eq_true rfl) ?_
  refine W.eq (g2 := F0 m 4 ls []) rfl ?_
  refine lv_aload_n hx hb (by decide +kernel : decode prog_10_method_1_code 4 = .ok (.aload_n 0, 1)) rfl (lv_at hl 0 rfl) ?_
  refine lv_bipush (v := 24) hx hb (by decide +kernel : decode prog_10_method_1_code 5 = .ok (.bipush 24, 2)) (by decide) ?_
  refine va_newa (atype := .int) (ty := .int) (N' := 24) (a0 := (24, .inl (fun _ => 0))) hx hb (hts _ (am_m1 (i := 48) rfl rfl)) rfl hK hP hD hS hA (fun _ => rfl) (by decide) (by decide +kernel) (Nat.le_of_ble_eq_true rfl) (Nat.le_of_ble_eq_true rfl) (Nat.le_of_ble_eq_true rfl) (by decide +kernel : decode prog_10_method_1_code 7 = .ok (.newarray .int, 2)) (fun q1 cA2 H hK2 hP hD hS => ?_)
  have ec := cn_ca0 hK2
  subst ec
  have hP : va_P (dC, dI) am_cl [(h0, .inr (8, [.null, .int 0, .int 0, .int 0, .int 0])), (q1, .inl (cA 0, 24, .inl (fun _ => 0)))] H := hP
  have hD : va_D A [(h0, .inr (8, [.null, .int 0, .int 0, .int 0, .int 0])), (q1, .inl (cA 0, 24, .inl (fun _ => 0)))] := hD
  refine W.widen (k := 1) (n := 24) (Nat.le_of_ble_eq_true rfl) (Nat.le_of_ble_eq_true rfl) ?_
  refine va_putF (D := (dC, dI)) (ci := 8) (v := .ref q1) (ty := (.array .int)) (C := R_8) (T := F_8) (N := 5) hx hb hts ig_8 t_8 t_8_ok n_8 hown hK hP hD hS 0 rfl rfl 0 (by decide) (hts _ (am_m1 (i := 31) rfl rfl)) (fun _ h9 => h9) rfl hin rfl (by decide +kernel) rfl rfl (Nat.le_of_ble_eq_true rfl) (by decide +kernel : decode prog_10_method_1_code 9 = .ok (.putfield 9, 3)) (fun H locs hP hD hS => ?_)
  have hP : va_P (dC, dI) am_cl [(h0, .inr (8, [.ref q1, .int 0, .int 0, .int 0, .int 0])), (q1, .inl (cA 0, 24, .inl (fun _ => 0)))] H := hP
  have hD : va_D A [(h0, .inr (8, [.ref q1, .int 0, .int 0, .int 0, .int 0])), (q1, .inl (cA 0, 24, .inl (fun _ => 0)))] := hD
  refine lv_aload_n hx hb (by decide +kernel : decode prog_10_method_1_code 12 = .ok (.aload_n 0, 1)) rfl (lv_at hl 0 rfl) ?_
  refine lv_iconst (v := 0) hx hb (by decide +kernel : decode prog_10_method_1_code 13 = .ok (.iconst 0, 1)) (by decide) ?_
  refine va_put (D := (dC, dI)) (ci := 8) (v := .int 0) (ty := .int) (C := R_8) (T := F_8) (N := 5) hx hb hts ig_8 t_8 t_8_ok n_8 hown hK hP hD hS 0 rfl rfl 4 (by decide) (hts _ (am_m1 (i := 35) rfl rfl)) (fun _ h9 => h9) rfl (by decide +kernel) rfl rfl (Nat.le_of_ble_eq_true rfl) (by decide +kernel : decode prog_10_method_1_code 14 = .ok (.putfield 15, 3)) (fun H locs hP hD hS => ?_)
  have hP : va_P (dC, dI) am_cl [(h0, .inr (8, [.ref q1, .int 0, .int 0, .int 0, .int 0])), (q1, .inl (cA 0, 24, .inl (fun _ => 0)))] H := hP
  have hD : va_D A [(h0, .inr (8, [.ref q1, .int 0, .int 0, .int 0, .int 0])), (q1, .inl (cA 0, 24, .inl (fun _ => 0)))] := hD
  refine lv_aload_n hx hb (by decide +kernel : decode prog_10_method_1_code 17 = .ok (.aload_n 0, 1)) rfl (lv_at hl 0 rfl) ?_
  refine lv_iload_n hx hb (by decide +kernel : decode prog_10_method_1_code 18 = .ok (.iload_n 1, 1)) rfl (lv_at hl 1 rfl) ?_
  refine va_putF (D := (dC, dI)) (ci := 8) (v := .int x1) (ty := .int) (C := R_8) (T := F_8) (N := 5) hx hb hts ig_8 t_8 t_8_ok n_8 hown hK hP hD hS 0 rfl rfl 1 (by decide) (hts _ (am_m1 (i := 32) rfl rfl)) (fun _ h9 => h9) rfl hin rfl (by decide +kernel) rfl rfl (Nat.le_of_ble_eq_true rfl) (by decide +kernel : decode prog_10_method_1_code 19 = .ok (.putfield 19, 3)) (fun H locs hP hD hS => ?_)
  have hP : va_P (dC, dI) am_cl [(h0, .inr (8, [.ref q1, .int x1, .int 0, .int 0, .int 0])), (q1, .inl (cA 0, 24, .inl (fun _ => 0)))] H := hP
  have hD : va_D A [(h0, .inr (8, [.ref q1, .int x1, .int 0, .int 0, .int 0])), (q1, .inl (cA 0, 24, .inl (fun _ => 0)))] := hD
  refine lv_aload_n hx hb (by decide +kernel : decode prog_10_method_1_code 22 = .ok (.aload_n 0, 1)) rfl (lv_at hl 0 rfl) ?_
  refine lv_iload_n hx hb (by decide +kernel : decode prog_10_method_1_code 23 = .ok (.iload_n 2, 1)) rfl (lv_at hl 2 rfl) ?_
  refine va_putF (D := (dC, dI)) (ci := 8) (v := .int x2) (ty := .int) (C := R_8) (T := F_8) (N := 5) hx hb hts ig_8 t_8 t_8_ok n_8 hown hK hP hD hS 0 rfl rfl 2 (by decide) (hts _ (am_m1 (i := 33) rfl rfl)) (fun _ h9 => h9) rfl hin rfl (by decide +kernel) rfl rfl (Nat.le_of_ble_eq_true rfl) (by decide +kernel : decode prog_10_method_1_code 24 = .ok (.putfield 22, 3)) (fun H locs hP hD hS => ?_)
  have hP : va_P (dC, dI) am_cl [(h0, .inr (8, [.ref q1, .int x1, .int x2, .int 0, .int 0])), (q1, .inl (cA 0, 24, .inl (fun _ => 0)))] H := hP
  have hD : va_D A [(h0, .inr (8, [.ref q1, .int x1, .int x2, .int 0, .int 0])), (q1, .inl (cA 0, 24, .inl (fun _ => 0)))] := hD
  refine lv_aload_n hx hb (by decide +kernel : decode prog_10_method_1_code 27 = .ok (.aload_n 0, 1)) rfl (lv_at hl 0 rfl) ?_
  refine lv_iload_n hx hb (by decide +kernel : decode prog_10_method_1_code 28 = .ok (.iload_n 3, 1)) rfl (lv_at hl 3 rfl) ?_
  refine va_putF (D := (dC, dI)) (ci := 8) (v := .int x3) (ty := .int) (C := R_8) (T := F_8) (N := 5) hx hb hts ig_8 t_8 t_8_ok n_8 hown hK hP hD hS 0 rfl rfl 3 (by decide) (hts _ (am_m1 (i := 34) rfl rfl)) (fun _ h9 => h9) rfl hin rfl (by decide +kernel) rfl rfl (Nat.le_of_ble_eq_true rfl) (by decide +kernel : decode prog_10_method_1_code 29 = .ok (.putfield 25, 3)) (fun H locs hP hD hS => ?_)
  have hP : va_P (dC, dI) am_cl [(h0, .inr (8, [.ref q1, .int x1, .int x2, .int x3, .int 0])), (q1, .inl (cA 0, 24, .inl (fun _ => 0)))] H := hP
  have hD : va_D A [(h0, .inr (8, [.ref q1, .int x1, .int x2, .int x3, .int 0])), (q1, .inl (cA 0, 24, .inl (fun _ => 0)))] := hD
  exact W.vret hx hb hr (fun t ht hW => ⟨⟨(), rfl, trivial, q1, by rw [ht]; exact hP, hD⟩, hS.F ht⟩) hS.2.2 (by decide +kernel : decode prog_10_method_1_code 32 = .ok (.return_, 1))
theorem kwcE : Cond.code (⟨"MilkHorse$Events", "<init>", "()V"⟩ : MethodName) prog_5_method_1_code 1 none ∈ am_tbl := am_m1 (i := 53) rfl rfl
set_option maxHeartbeats 4000000 in
set_option maxRecDepth 100000 in
theorem knE (l : Launch) (dC : Nat → ClassId) (dI : Nat → Nat → Nat) (cA : Nat → ClassId) (h0 sz : Nat) : Met l (⟨"MilkHorse$Events", "<init>", "()V"⟩ : MethodName) (am_ws (⟨"MilkHorse$Events", "<init>", "()V"⟩ : MethodName) prog_5_method_1_code 1 none) ({ frames := 1, cells := 3, slots := 24, locals := 32 }) (va_Pc [.ref h0] (fun U => U.heap.size = sz ∧ va_P (dC, dI) am_cl [(h0, .inr (3, [.null, .null, .null, .int 0]))] U.heap ∧ va_K (dC, dI) am_cl (am_tys cA) U ∧ am_N U ∧ va_D (fun _ => True) [(h0, .inr (3, [.null, .null, .null, .int 0]))])) (va_Qv (fun _ : Unit => True) (fun _ t => ∃ q1 q2 q3 : Nat, va_P (dC, dI) am_cl [(h0, .inr (3, [.ref q1, .ref q2, .ref q3, .int 0])), (q1, .inl (cA 0, 8, .inl (fun _ => 0))), (q2, .inl (cA 0, 8, .inl (fun _ => 0))), (q3, .inl (cA 0, 8, .inl (fun _ => 0)))] t.heap ∧ va_D (va_A [(h0, .inr (3, [.null, .null, .null, .int 0]))] sz) [(h0, .inr (3, [.ref q1, .ref q2, .ref q3, .int 0])), (q1, .inl (cA 0, 8, .inl (fun _ => 0))), (q2, .inl (cA 0, 8, .inl (fun _ => 0))), (q3, .inl (cA 0, 8, .inl (fun _ => 0)))]) (va_A [(h0, .inr (3, [.null, .null, .null, .int 0]))] sz)) 3 24 (va_A [(h0, .inr (3, [.null, .null, .null, .int 0]))] sz) := by
  refine Met.ofW (cc := prog_5_method_1_code) (maxL := 1) (ret := none) (ws' := am_tbl) (by decide +kernel) rfl ?_
  intro p e s m args below meth c s₁ B hml hv
  obtain ⟨rfl, hsz, hP, hK, hN, hD0⟩ := hv
  have hx := B.exec
  have hb := B.bytes
  have hr := B.returns
  have hts0 := atoms_spec (ws := am_ws (⟨"MilkHorse$Events", "<init>", "()V"⟩ : MethodName) prog_5_method_1_code 1 none) B.pre
  have hts : ∀ w ∈ am_tbl, w.before [.ref h0].toArray s = true := fun w hw => hts0 w (List.mem_cons_of_mem _ hw)
  have hown : s.vm.findClass "MilkHorse$Events" = some m.cls := findClass_of_methodNamed B.named
  have hlocks := B.notSynchronized
  have hin : meth.name = "<init>" := (name_of_methodNamed B.named B.method).1
  subst hsz
  have hD := hD0.self (sz := s.heap.size)
  generalize hAe : va_A [(h0, .inr (3, [.null, .null, .null, .int 0]))] s.heap.size = A at hD ⊢
  have hA : ∀ q : Nat, s.heap.size ≤ q → A q := fun q h => by rw [← hAe]; exact Or.inr h
  have hS : va_S A s.heap s.heap [] := va_S.rf
  have hl := lv_entry ([.ref h0]) (n := 1) (Nat.le_of_ble_eq_true rfl)
  rw [lg_entry_eq]
  generalize (lg_sl ([.ref h0]) ++ List.replicate (1 - (lg_sl ([.ref h0])).length) Slot.unset).toArray = ls at hl ⊢
  have hl : lv_has ls 1 [(0, .ref h0)] := hl
  refine lv_aload_n hx hb (by decide +kernel : decode prog_5_method_1_code 0 = .ok (.aload_n 0, 1)) rfl (lv_at hl 0 rfl) ?_
  refine W.objInit hx hb hown (hts _ (am_m1 (i := 54) rfl rfl)) (hts _ (am_m1 (i := 23) rfl rfl)) (hts _ (am_m1 (i := 24) rfl rfl)) rfl (by rw [hml]; exact hl.1) rfl (by decide +kernel : decode prog_5_method_1_code 1 = .ok (.invokespecial 3, 3)) (Nat.le_of_ble_eq_true rfl) (Nat.le_of_ble_eq_true rfl) ?_
  refine W.eq (g2 := F0 m 4 ls []) rfl ?_
  refine lv_aload_n hx hb (by decide +kernel : decode prog_5_method_1_code 4 = .ok (.aload_n 0, 1)) rfl (lv_at hl 0 rfl) ?_
  refine lv_bipush (v := 8) hx hb (by decide +kernel : decode prog_5_method_1_code 5 = .ok (.bipush 8, 2)) (by decide) ?_
  refine va_newa (atype := .int) (ty := .int) (N' := 8) (a0 := (8, .inl (fun _ => 0))) hx hb (hts _ (am_m1 (i := 48) rfl rfl)) rfl hK hP hD hS hA (fun _ => rfl) (by decide) (by decide +kernel) (Nat.le_of_ble_eq_true rfl) (Nat.le_of_ble_eq_true rfl) (Nat.le_of_ble_eq_true rfl) (by decide +kernel : decode prog_5_method_1_code 7 = .ok (.newarray .int, 2)) (fun q1 cA2 H hK2 hP hD hS => ?_)
  have ec := cn_ca0 hK2
  subst ec
  have hP : va_P (dC, dI) am_cl [(h0, .inr (3, [.null, .null, .null, .int 0])), (q1, .inl (cA 0, 8, .inl (fun _ => 0)))] H := hP
  have hD : va_D A [(h0, .inr (3, [.null, .null, .null, .int 0])), (q1, .inl (cA 0, 8, .inl (fun _ => 0)))] := hD
  refine W.widen (k := 1) (n := 8) (Nat.le_of_ble_eq_true rfl) (Nat.le_of_ble_eq_true rfl) ?_
  refine va_putF (D := (dC, dI)) (ci := 3) (v := .ref q1) (ty := (.array .int)) (C := R_3) (T := F_3) (N := 4) hx hb hts ig_3 t_3 t_3_ok n_3 hown hK hP hD hS 0 rfl rfl 0 (by decide) (hts _ (am_m1 (i := 55) rfl rfl)) (fun _ h9 => h9) rfl hin rfl (by decide +kernel) rfl rfl (Nat.le_of_ble_eq_true rfl) (by decide +kernel : decode prog_5_method_1_code 9 = .ok (.putfield 9, 3)) (fun H locs hP hD hS => ?_)
  have hP : va_P (dC, dI) am_cl [(h0, .inr (3, [.ref q1, .null, .null, .int 0])), (q1, .inl (cA 0, 8, .inl (fun _ => 0)))] H := hP
  have hD : va_D A [(h0, .inr (3, [.ref q1, .null, .null, .int 0])), (q1, .inl (cA 0, 8, .inl (fun _ => 0)))] := hD
  refine lv_aload_n hx hb (by decide +kernel : decode prog_5_method_1_code 12 = .ok (.aload_n 0, 1)) rfl (lv_at hl 0 rfl) ?_
  refine lv_bipush (v := 8) hx hb (by decide +kernel : decode prog_5_method_1_code 13 = .ok (.bipush 8, 2)) (by decide) ?_
  refine va_newa (atype := .int) (ty := .int) (N' := 8) (a0 := (8, .inl (fun _ => 0))) hx hb (hts _ (am_m1 (i := 48) rfl rfl)) rfl hK hP hD hS hA (fun _ => rfl) (by decide) (by decide +kernel) (Nat.le_of_ble_eq_true rfl) (Nat.le_of_ble_eq_true rfl) (Nat.le_of_ble_eq_true rfl) (by decide +kernel : decode prog_5_method_1_code 15 = .ok (.newarray .int, 2)) (fun q2 cA2 H hK2 hP hD hS => ?_)
  have ec := cn_ca0 hK2
  subst ec
  have hP : va_P (dC, dI) am_cl [(h0, .inr (3, [.ref q1, .null, .null, .int 0])), (q1, .inl (cA 0, 8, .inl (fun _ => 0))), (q2, .inl (cA 0, 8, .inl (fun _ => 0)))] H := hP
  have hD : va_D A [(h0, .inr (3, [.ref q1, .null, .null, .int 0])), (q1, .inl (cA 0, 8, .inl (fun _ => 0))), (q2, .inl (cA 0, 8, .inl (fun _ => 0)))] := hD
  refine W.widen (k := 2) (n := 16) (Nat.le_of_ble_eq_true rfl) (Nat.le_of_ble_eq_true rfl) ?_
  refine va_putF (D := (dC, dI)) (ci := 3) (v := .ref q2) (ty := (.array .int)) (C := R_3) (T := F_3) (N := 4) hx hb hts ig_3 t_3 t_3_ok n_3 hown hK hP hD hS 0 rfl rfl 1 (by decide) (hts _ (am_m1 (i := 57) rfl rfl)) (fun _ h9 => h9) rfl hin rfl (by decide +kernel) rfl rfl (Nat.le_of_ble_eq_true rfl) (by decide +kernel : decode prog_5_method_1_code 17 = .ok (.putfield 15, 3)) (fun H locs hP hD hS => ?_)
  have hP : va_P (dC, dI) am_cl [(h0, .inr (3, [.ref q1, .ref q2, .null, .int 0])), (q1, .inl (cA 0, 8, .inl (fun _ => 0))), (q2, .inl (cA 0, 8, .inl (fun _ => 0)))] H := hP
  have hD : va_D A [(h0, .inr (3, [.ref q1, .ref q2, .null, .int 0])), (q1, .inl (cA 0, 8, .inl (fun _ => 0))), (q2, .inl (cA 0, 8, .inl (fun _ => 0)))] := hD
  refine lv_aload_n hx hb (by decide +kernel : decode prog_5_method_1_code 20 = .ok (.aload_n 0, 1)) rfl (lv_at hl 0 rfl) ?_
  refine lv_bipush (v := 8) hx hb (by decide +kernel : decode prog_5_method_1_code 21 = .ok (.bipush 8, 2)) (by decide) ?_
  refine va_newa (atype := .int) (ty := .int) (N' := 8) (a0 := (8, .inl (fun _ => 0))) hx hb (hts _ (am_m1 (i := 48) rfl rfl)) rfl hK hP hD hS hA (fun _ => rfl) (by decide) (by decide +kernel) (Nat.le_of_ble_eq_true rfl) (Nat.le_of_ble_eq_true rfl) (Nat.le_of_ble_eq_true rfl) (by decide +kernel : decode prog_5_method_1_code 23 = .ok (.newarray .int, 2)) (fun q3 cA2 H hK2 hP hD hS => ?_)
  have ec := cn_ca0 hK2
  subst ec
  have hP : va_P (dC, dI) am_cl [(h0, .inr (3, [.ref q1, .ref q2, .null, .int 0])), (q1, .inl (cA 0, 8, .inl (fun _ => 0))), (q2, .inl (cA 0, 8, .inl (fun _ => 0))), (q3, .inl (cA 0, 8, .inl (fun _ => 0)))] H := hP
  have hD : va_D A [(h0, .inr (3, [.ref q1, .ref q2, .null, .int 0])), (q1, .inl (cA 0, 8, .inl (fun _ => 0))), (q2, .inl (cA 0, 8, .inl (fun _ => 0))), (q3, .inl (cA 0, 8, .inl (fun _ => 0)))] := hD
  refine W.widen (k := 3) (n := 24) (Nat.le_of_ble_eq_true rfl) (Nat.le_of_ble_eq_true rfl) ?_
  refine va_putF (D := (dC, dI)) (ci := 3) (v := .ref q3) (ty := (.array .int)) (C := R_3) (T := F_3) (N := 4) hx hb hts ig_3 t_3 t_3_ok n_3 hown hK hP hD hS 0 rfl rfl 2 (by decide) (hts _ (am_m1 (i := 59) rfl rfl)) (fun _ h9 => h9) rfl hin rfl (by decide +kernel) rfl rfl (Nat.le_of_ble_eq_true rfl) (by decide +kernel : decode prog_5_method_1_code 25 = .ok (.putfield 18, 3)) (fun H locs hP hD hS => ?_)
  have hP : va_P (dC, dI) am_cl [(h0, .inr (3, [.ref q1, .ref q2, .ref q3, .int 0])), (q1, .inl (cA 0, 8, .inl (fun _ => 0))), (q2, .inl (cA 0, 8, .inl (fun _ => 0))), (q3, .inl (cA 0, 8, .inl (fun _ => 0)))] H := hP
  have hD : va_D A [(h0, .inr (3, [.ref q1, .ref q2, .ref q3, .int 0])), (q1, .inl (cA 0, 8, .inl (fun _ => 0))), (q2, .inl (cA 0, 8, .inl (fun _ => 0))), (q3, .inl (cA 0, 8, .inl (fun _ => 0)))] := hD
  refine lv_aload_n hx hb (by decide +kernel : decode prog_5_method_1_code 28 = .ok (.aload_n 0, 1)) rfl (lv_at hl 0 rfl) ?_
  refine lv_iconst (v := 0) hx hb (by decide +kernel : decode prog_5_method_1_code 29 = .ok (.iconst 0, 1)) (by decide) ?_
  refine va_put (D := (dC, dI)) (ci := 3) (v := .int 0) (ty := .int) (C := R_3) (T := F_3) (N := 4) hx hb hts ig_3 t_3 t_3_ok n_3 hown hK hP hD hS 0 rfl rfl 3 (by decide) (hts _ (am_m1 (i := 61) rfl rfl)) (fun _ h9 => h9) rfl (by decide +kernel) rfl rfl (Nat.le_of_ble_eq_true rfl) (by decide +kernel : decode prog_5_method_1_code 30 = .ok (.putfield 21, 3)) (fun H locs hP hD hS => ?_)
  have hP : va_P (dC, dI) am_cl [(h0, .inr (3, [.ref q1, .ref q2, .ref q3, .int 0])), (q1, .inl (cA 0, 8, .inl (fun _ => 0))), (q2, .inl (cA 0, 8, .inl (fun _ => 0))), (q3, .inl (cA 0, 8, .inl (fun _ => 0)))] H := hP
  have hD : va_D A [(h0, .inr (3, [.ref q1, .ref q2, .ref q3, .int 0])), (q1, .inl (cA 0, 8, .inl (fun _ => 0))), (q2, .inl (cA 0, 8, .inl (fun _ => 0))), (q3, .inl (cA 0, 8, .inl (fun _ => 0)))] := hD
  exact W.vret hx hb hr (fun t ht hW => ⟨⟨(), rfl, trivial, q1, q2, q3, by rw [ht]; exact hP, hD⟩, hS.F ht⟩) hS.2.2 (by decide +kernel : decode prog_5_method_1_code 33 = .ok (.return_, 1))
theorem kwcS : Cond.code (⟨"MilkHorse$Sights", "<init>", "()V"⟩ : MethodName) prog_8_method_1_code 1 none ∈ am_tbl := am_m1 (i := 77) rfl rfl
set_option maxHeartbeats 4000000 in
set_option maxRecDepth 100000 in
theorem knS (l : Launch) (dC : Nat → ClassId) (dI : Nat → Nat → Nat) (cA : Nat → ClassId) (h0 sz : Nat) : Met l (⟨"MilkHorse$Sights", "<init>", "()V"⟩ : MethodName) (am_ws (⟨"MilkHorse$Sights", "<init>", "()V"⟩ : MethodName) prog_8_method_1_code 1 none) ({ frames := 1, cells := 2, slots := 16, locals := 32 }) (va_Pc [.ref h0] (fun U => U.heap.size = sz ∧ va_P (dC, dI) am_cl [(h0, .inr (6, [.null, .null, .int 0]))] U.heap ∧ va_K (dC, dI) am_cl (am_tys cA) U ∧ am_N U ∧ va_D (fun _ => True) [(h0, .inr (6, [.null, .null, .int 0]))])) (va_Qv (fun _ : Unit => True) (fun _ t => ∃ q1 q2 : Nat, va_P (dC, dI) am_cl [(h0, .inr (6, [.ref q1, .ref q2, .int 0])), (q1, .inl (cA 0, 8, .inl (fun _ => 0))), (q2, .inl (cA 0, 8, .inl (fun _ => 0)))] t.heap ∧ va_D (va_A [(h0, .inr (6, [.null, .null, .int 0]))] sz) [(h0, .inr (6, [.ref q1, .ref q2, .int 0])), (q1, .inl (cA 0, 8, .inl (fun _ => 0))), (q2, .inl (cA 0, 8, .inl (fun _ => 0)))]) (va_A [(h0, .inr (6, [.null, .null, .int 0]))] sz)) 2 16 (va_A [(h0, .inr (6, [.null, .null, .int 0]))] sz) := by
  refine Met.ofW (cc := prog_8_method_1_code) (maxL := 1) (ret := none) (ws' := am_tbl) (by decide +kernel) rfl ?_
  intro p e s m args below meth c s₁ B hml hv
  obtain ⟨rfl, hsz, hP, hK, hN, hD0⟩ := hv
  have hx := B.exec
  have hb := B.bytes
  have hr := B.returns
  have hts0 := atoms_spec (ws := am_ws (⟨"MilkHorse$Sights", "<init>", "()V"⟩ : MethodName) prog_8_method_1_code 1 none) B.pre
  have hts : ∀ w ∈ am_tbl, w.before [.ref h0].toArray s = true := fun w hw => hts0 w (List.mem_cons_of_mem _ hw)
  have hown : s.vm.findClass "MilkHorse$Sights" = some m.cls := findClass_of_methodNamed B.named
  have hlocks := B.notSynchronized
  have hin : meth.name = "<init>" := (name_of_methodNamed B.named B.method).1
  subst hsz
  have hD := hD0.self (sz := s.heap.size)
  generalize hAe : va_A [(h0, .inr (6, [.null, .null, .int 0]))] s.heap.size = A at hD ⊢
  have hA : ∀ q : Nat, s.heap.size ≤ q → A q := fun q h => by rw [← hAe]; exact Or.inr h
  have hS : va_S A s.heap s.heap [] := va_S.rf
  have hl := lv_entry ([.ref h0]) (n := 1) (Nat.le_of_ble_eq_true rfl)
  rw [lg_entry_eq]
  generalize (lg_sl ([.ref h0]) ++ List.replicate (1 - (lg_sl ([.ref h0])).length) Slot.unset).toArray = ls at hl ⊢
  have hl : lv_has ls 1 [(0, .ref h0)] := hl
  refine lv_aload_n hx hb (by decide +kernel : decode prog_8_method_1_code 0 = .ok (.aload_n 0, 1)) rfl (lv_at hl 0 rfl) ?_
  refine W.objInit hx hb hown (hts _ (am_m1 (i := 78) rfl rfl)) (hts _ (am_m1 (i := 23) rfl rfl)) (hts _ (am_m1 (i := 24) rfl rfl)) rfl (by rw [hml]; exact hl.1) rfl (by decide +kernel : decode prog_8_method_1_code 1 = .ok (.invokespecial 3, 3)) (Nat.le_of_ble_eq_true rfl) (Nat.le_of_ble_eq_true rfl) ?_
  refine W.eq (g2 := F0 m 4 ls []) rfl ?_
  refine lv_aload_n hx hb (by decide +kernel : decode prog_8_method_1_code 4 = .ok (.aload_n 0, 1)) rfl (lv_at hl 0 rfl) ?_
  refine lv_bipush (v := 8) hx hb (by decide +kernel : decode prog_8_method_1_code 5 = .ok (.bipush 8, 2)) (by decide) ?_
  refine va_newa (atype := .int) (ty := .int) (N' := 8) (a0 := (8, .inl (fun _ => 0))) hx hb (hts _ (am_m1 (i := 48) rfl rfl)) rfl hK hP hD hS hA (fun _ => rfl) (by decide) (by decide +kernel) (Nat.le_of_ble_eq_true rfl) (Nat.le_of_ble_eq_true rfl) (Nat.le_of_ble_eq_true rfl) (by decide +kernel : decode prog_8_method_1_code 7 = .ok (.newarray .int, 2)) (fun q1 cA2 H hK2 hP hD hS => ?_)
  have ec := cn_ca0 hK2
  subst ec
  have hP : va_P (dC, dI) am_cl [(h0, .inr (6, [.null, .null, .int 0])), (q1, .inl (cA 0, 8, .inl (fun _ => 0)))] H := hP
  have hD : va_D A [(h0, .inr (6, [.null, .null, .int 0])), (q1, .inl (cA 0, 8, .inl (fun _ => 0)))] := hD
  refine W.widen (k := 1) (n := 8) (Nat.le_of_ble_eq_true rfl) (Nat.le_of_ble_eq_true rfl) ?_
  refine va_putF (D := (dC, dI)) (ci := 6) (v := .ref q1) (ty := (.array .int)) (C := R_6) (T := F_6) (N := 3) hx hb hts ig_6 t_6 t_6_ok n_6 hown hK hP hD hS 0 rfl rfl 0 (by decide) (hts _ (am_m1 (i := 79) rfl rfl)) (fun _ h9 => h9) rfl hin rfl (by decide +kernel) rfl rfl (Nat.le_of_ble_eq_true rfl) (by decide +kernel : decode prog_8_method_1_code 9 = .ok (.putfield 9, 3)) (fun H locs hP hD hS => ?_)
  have hP : va_P (dC, dI) am_cl [(h0, .inr (6, [.ref q1, .null, .int 0])), (q1, .inl (cA 0, 8, .inl (fun _ => 0)))] H := hP
  have hD : va_D A [(h0, .inr (6, [.ref q1, .null, .int 0])), (q1, .inl (cA 0, 8, .inl (fun _ => 0)))] := hD
  refine lv_aload_n hx hb (by decide +kernel : decode prog_8_method_1_code 12 = .ok (.aload_n 0, 1)) rfl (lv_at hl 0 rfl) ?_
  refine lv_bipush (v := 8) hx hb (by decide +kernel : decode prog_8_method_1_code 13 = .ok (.bipush 8, 2)) (by decide) ?_
  refine va_newa (atype := .int) (ty := .int) (N' := 8) (a0 := (8, .inl (fun _ => 0))) hx hb (hts _ (am_m1 (i := 48) rfl rfl)) rfl hK hP hD hS hA (fun _ => rfl) (by decide) (by decide +kernel) (Nat.le_of_ble_eq_true rfl) (Nat.le_of_ble_eq_true rfl) (Nat.le_of_ble_eq_true rfl) (by decide +kernel : decode prog_8_method_1_code 15 = .ok (.newarray .int, 2)) (fun q2 cA2 H hK2 hP hD hS => ?_)
  have ec := cn_ca0 hK2
  subst ec
  have hP : va_P (dC, dI) am_cl [(h0, .inr (6, [.ref q1, .null, .int 0])), (q1, .inl (cA 0, 8, .inl (fun _ => 0))), (q2, .inl (cA 0, 8, .inl (fun _ => 0)))] H := hP
  have hD : va_D A [(h0, .inr (6, [.ref q1, .null, .int 0])), (q1, .inl (cA 0, 8, .inl (fun _ => 0))), (q2, .inl (cA 0, 8, .inl (fun _ => 0)))] := hD
  refine W.widen (k := 2) (n := 16) (Nat.le_of_ble_eq_true rfl) (Nat.le_of_ble_eq_true rfl) ?_
  refine va_putF (D := (dC, dI)) (ci := 6) (v := .ref q2) (ty := (.array .int)) (C := R_6) (T := F_6) (N := 3) hx hb hts ig_6 t_6 t_6_ok n_6 hown hK hP hD hS 0 rfl rfl 1 (by decide) (hts _ (am_m1 (i := 80) rfl rfl)) (fun _ h9 => h9) rfl hin rfl (by decide +kernel) rfl rfl (Nat.le_of_ble_eq_true rfl) (by decide +kernel : decode prog_8_method_1_code 17 = .ok (.putfield 15, 3)) (fun H locs hP hD hS => ?_)
  have hP : va_P (dC, dI) am_cl [(h0, .inr (6, [.ref q1, .ref q2, .int 0])), (q1, .inl (cA 0, 8, .inl (fun _ => 0))), (q2, .inl (cA 0, 8, .inl (fun _ => 0)))] H := hP
  have hD : va_D A [(h0, .inr (6, [.ref q1, .ref q2, .int 0])), (q1, .inl (cA 0, 8, .inl (fun _ => 0))), (q2, .inl (cA 0, 8, .inl (fun _ => 0)))] := hD
  refine lv_aload_n hx hb (by decide +kernel : decode prog_8_method_1_code 20 = .ok (.aload_n 0, 1)) rfl (lv_at hl 0 rfl) ?_
  refine lv_iconst (v := 0) hx hb (by decide +kernel : decode prog_8_method_1_code 21 = .ok (.iconst 0, 1)) (by decide) ?_
  refine va_put (D := (dC, dI)) (ci := 6) (v := .int 0) (ty := .int) (C := R_6) (T := F_6) (N := 3) hx hb hts ig_6 t_6 t_6_ok n_6 hown hK hP hD hS 0 rfl rfl 2 (by decide) (hts _ (am_m1 (i := 81) rfl rfl)) (fun _ h9 => h9) rfl (by decide +kernel) rfl rfl (Nat.le_of_ble_eq_true rfl) (by decide +kernel : decode prog_8_method_1_code 22 = .ok (.putfield 18, 3)) (fun H locs hP hD hS => ?_)
  have hP : va_P (dC, dI) am_cl [(h0, .inr (6, [.ref q1, .ref q2, .int 0])), (q1, .inl (cA 0, 8, .inl (fun _ => 0))), (q2, .inl (cA 0, 8, .inl (fun _ => 0)))] H := hP
  have hD : va_D A [(h0, .inr (6, [.ref q1, .ref q2, .int 0])), (q1, .inl (cA 0, 8, .inl (fun _ => 0))), (q2, .inl (cA 0, 8, .inl (fun _ => 0)))] := hD
  exact W.vret hx hb hr (fun t ht hW => ⟨⟨(), rfl, trivial, q1, q2, by rw [ht]; exact hP, hD⟩, hS.F ht⟩) hS.2.2 (by decide +kernel : decode prog_8_method_1_code 25 = .ok (.return_, 1))
theorem kwcP : Cond.code (⟨"MilkHorse$Plan", "<init>", "()V"⟩ : MethodName) prog_6_method_1_code 1 none ∈ am_tbl := am_m1 (i := 94) rfl rfl
set_option maxHeartbeats 4000000 in
set_option maxRecDepth 100000 in
theorem knP (l : Launch) (dC : Nat → ClassId) (dI : Nat → Nat → Nat) (cA : Nat → ClassId) (h0 sz : Nat) : Met l (⟨"MilkHorse$Plan", "<init>", "()V"⟩ : MethodName) (am_ws (⟨"MilkHorse$Plan", "<init>", "()V"⟩ : MethodName) prog_6_method_1_code 1 none) ({ frames := 1, cells := 3, slots := 48, locals := 32 }) (va_Pc [.ref h0] (fun U => U.heap.size = sz ∧ va_P (dC, dI) am_cl [(h0, .inr (4, [.null, .null, .null, .int 0, .int 0, .int 0, .int 0, .int 0]))] U.heap ∧ va_K (dC, dI) am_cl (am_tys cA) U ∧ am_N U ∧ va_D (fun _ => True) [(h0, .inr (4, [.null, .null, .null, .int 0, .int 0, .int 0, .int 0, .int 0]))])) (va_Qv (fun _ : Unit => True) (fun _ t => ∃ q1 q2 q3 : Nat, va_P (dC, dI) am_cl [(h0, .inr (4, [.ref q1, .ref q2, .ref q3, .int 0, .int 1, .int 4, .int 40, .int 0])), (q1, .inl (cA 0, 12, .inl (fun _ => 0))), (q2, .inl (cA 0, 12, .inl (fun _ => 0))), (q3, .inl (cA 0, 24, .inl (fun _ => 0)))] t.heap ∧ va_D (va_A [(h0, .inr (4, [.null, .null, .null, .int 0, .int 0, .int 0, .int 0, .int 0]))] sz) [(h0, .inr (4, [.ref q1, .ref q2, .ref q3, .int 0, .int 1, .int 4, .int 40, .int 0])), (q1, .inl (cA 0, 12, .inl (fun _ => 0))), (q2, .inl (cA 0, 12, .inl (fun _ => 0))), (q3, .inl (cA 0, 24, .inl (fun _ => 0)))]) (va_A [(h0, .inr (4, [.null, .null, .null, .int 0, .int 0, .int 0, .int 0, .int 0]))] sz)) 3 48 (va_A [(h0, .inr (4, [.null, .null, .null, .int 0, .int 0, .int 0, .int 0, .int 0]))] sz) := by
  refine Met.ofW (cc := prog_6_method_1_code) (maxL := 1) (ret := none) (ws' := am_tbl) (by decide +kernel) rfl ?_
  intro p e s m args below meth c s₁ B hml hv
  obtain ⟨rfl, hsz, hP, hK, hN, hD0⟩ := hv
  have hx := B.exec
  have hb := B.bytes
  have hr := B.returns
  have hts0 := atoms_spec (ws := am_ws (⟨"MilkHorse$Plan", "<init>", "()V"⟩ : MethodName) prog_6_method_1_code 1 none) B.pre
  have hts : ∀ w ∈ am_tbl, w.before [.ref h0].toArray s = true := fun w hw => hts0 w (List.mem_cons_of_mem _ hw)
  have hown : s.vm.findClass "MilkHorse$Plan" = some m.cls := findClass_of_methodNamed B.named
  have hlocks := B.notSynchronized
  have hin : meth.name = "<init>" := (name_of_methodNamed B.named B.method).1
  subst hsz
  have hD := hD0.self (sz := s.heap.size)
  generalize hAe : va_A [(h0, .inr (4, [.null, .null, .null, .int 0, .int 0, .int 0, .int 0, .int 0]))] s.heap.size = A at hD ⊢
  have hA : ∀ q : Nat, s.heap.size ≤ q → A q := fun q h => by rw [← hAe]; exact Or.inr h
  have hS : va_S A s.heap s.heap [] := va_S.rf
  have hl := lv_entry ([.ref h0]) (n := 1) (Nat.le_of_ble_eq_true rfl)
  rw [lg_entry_eq]
  generalize (lg_sl ([.ref h0]) ++ List.replicate (1 - (lg_sl ([.ref h0])).length) Slot.unset).toArray = ls at hl ⊢
  have hl : lv_has ls 1 [(0, .ref h0)] := hl
  refine lv_aload_n hx hb (by decide +kernel : decode prog_6_method_1_code 0 = .ok (.aload_n 0, 1)) rfl (lv_at hl 0 rfl) ?_
  refine W.objInit hx hb hown (hts _ (am_m1 (i := 95) rfl rfl)) (hts _ (am_m1 (i := 23) rfl rfl)) (hts _ (am_m1 (i := 24) rfl rfl)) rfl (by rw [hml]; exact hl.1) rfl (by decide +kernel : decode prog_6_method_1_code 1 = .ok (.invokespecial 3, 3)) (Nat.le_of_ble_eq_true rfl) (Nat.le_of_ble_eq_true rfl) ?_
  refine W.eq (g2 := F0 m 4 ls []) rfl ?_
  refine lv_aload_n hx hb (by decide +kernel : decode prog_6_method_1_code 4 = .ok (.aload_n 0, 1)) rfl (lv_at hl 0 rfl) ?_
  refine lv_bipush (v := 12) hx hb (by decide +kernel : decode prog_6_method_1_code 5 = .ok (.bipush 12, 2)) (by decide) ?_
  refine va_newa (atype := .int) (ty := .int) (N' := 12) (a0 := (12, .inl (fun _ => 0))) hx hb (hts _ (am_m1 (i := 48) rfl rfl)) rfl hK hP hD hS hA (fun _ => rfl) (by decide) (by decide +kernel) (Nat.le_of_ble_eq_true rfl) (Nat.le_of_ble_eq_true rfl) (Nat.le_of_ble_eq_true rfl) (by decide +kernel : decode prog_6_method_1_code 7 = .ok (.newarray .int, 2)) (fun q1 cA2 H hK2 hP hD hS => ?_)
  have ec := cn_ca0 hK2
  subst ec
  have hP : va_P (dC, dI) am_cl [(h0, .inr (4, [.null, .null, .null, .int 0, .int 0, .int 0, .int 0, .int 0])), (q1, .inl (cA 0, 12, .inl (fun _ => 0)))] H := hP
  have hD : va_D A [(h0, .inr (4, [.null, .null, .null, .int 0, .int 0, .int 0, .int 0, .int 0])), (q1, .inl (cA 0, 12, .inl (fun _ => 0)))] := hD
  refine W.widen (k := 1) (n := 12) (Nat.le_of_ble_eq_true rfl) (Nat.le_of_ble_eq_true rfl) ?_
  refine va_putF (D := (dC, dI)) (ci := 4) (v := .ref q1) (ty := (.array .int)) (C := R_4) (T := F_4) (N := 8) hx hb hts ig_4 t_4 t_4_ok n_4 hown hK hP hD hS 0 rfl rfl 0 (by decide) (hts _ (am_m1 (i := 96) rfl rfl)) (fun _ h9 => h9) rfl hin rfl (by decide +kernel) rfl rfl (Nat.le_of_ble_eq_true rfl) (by decide +kernel : decode prog_6_method_1_code 9 = .ok (.putfield 9, 3)) (fun H locs hP hD hS => ?_)
  have hP : va_P (dC, dI) am_cl [(h0, .inr (4, [.ref q1, .null, .null, .int 0, .int 0, .int 0, .int 0, .int 0])), (q1, .inl (cA 0, 12, .inl (fun _ => 0)))] H := hP
  have hD : va_D A [(h0, .inr (4, [.ref q1, .null, .null, .int 0, .int 0, .int 0, .int 0, .int 0])), (q1, .inl (cA 0, 12, .inl (fun _ => 0)))] := hD
  refine lv_aload_n hx hb (by decide +kernel : decode prog_6_method_1_code 12 = .ok (.aload_n 0, 1)) rfl (lv_at hl 0 rfl) ?_
  refine lv_bipush (v := 12) hx hb (by decide +kernel : decode prog_6_method_1_code 13 = .ok (.bipush 12, 2)) (by decide) ?_
  refine va_newa (atype := .int) (ty := .int) (N' := 12) (a0 := (12, .inl (fun _ => 0))) hx hb (hts _ (am_m1 (i := 48) rfl rfl)) rfl hK hP hD hS hA (fun _ => rfl) (by decide) (by decide +kernel) (Nat.le_of_ble_eq_true rfl) (Nat.le_of_ble_eq_true rfl) (Nat.le_of_ble_eq_true rfl) (by decide +kernel : decode prog_6_method_1_code 15 = .ok (.newarray .int, 2)) (fun q2 cA2 H hK2 hP hD hS => ?_)
  have ec := cn_ca0 hK2
  subst ec
  have hP : va_P (dC, dI) am_cl [(h0, .inr (4, [.ref q1, .null, .null, .int 0, .int 0, .int 0, .int 0, .int 0])), (q1, .inl (cA 0, 12, .inl (fun _ => 0))), (q2, .inl (cA 0, 12, .inl (fun _ => 0)))] H := hP
  have hD : va_D A [(h0, .inr (4, [.ref q1, .null, .null, .int 0, .int 0, .int 0, .int 0, .int 0])), (q1, .inl (cA 0, 12, .inl (fun _ => 0))), (q2, .inl (cA 0, 12, .inl (fun _ => 0)))] := hD
  refine W.widen (k := 2) (n := 24) (Nat.le_of_ble_eq_true rfl) (Nat.le_of_ble_eq_true rfl) ?_
  refine va_putF (D := (dC, dI)) (ci := 4) (v := .ref q2) (ty := (.array .int)) (C := R_4) (T := F_4) (N := 8) hx hb hts ig_4 t_4 t_4_ok n_4 hown hK hP hD hS 0 rfl rfl 1 (by decide) (hts _ (am_m1 (i := 99) rfl rfl)) (fun _ h9 => h9) rfl hin rfl (by decide +kernel) rfl rfl (Nat.le_of_ble_eq_true rfl) (by decide +kernel : decode prog_6_method_1_code 17 = .ok (.putfield 15, 3)) (fun H locs hP hD hS => ?_)
  have hP : va_P (dC, dI) am_cl [(h0, .inr (4, [.ref q1, .ref q2, .null, .int 0, .int 0, .int 0, .int 0, .int 0])), (q1, .inl (cA 0, 12, .inl (fun _ => 0))), (q2, .inl (cA 0, 12, .inl (fun _ => 0)))] H := hP
  have hD : va_D A [(h0, .inr (4, [.ref q1, .ref q2, .null, .int 0, .int 0, .int 0, .int 0, .int 0])), (q1, .inl (cA 0, 12, .inl (fun _ => 0))), (q2, .inl (cA 0, 12, .inl (fun _ => 0)))] := hD
  refine lv_aload_n hx hb (by decide +kernel : decode prog_6_method_1_code 20 = .ok (.aload_n 0, 1)) rfl (lv_at hl 0 rfl) ?_
  refine lv_bipush (v := 24) hx hb (by decide +kernel : decode prog_6_method_1_code 21 = .ok (.bipush 24, 2)) (by decide) ?_
  refine va_newa (atype := .int) (ty := .int) (N' := 24) (a0 := (24, .inl (fun _ => 0))) hx hb (hts _ (am_m1 (i := 48) rfl rfl)) rfl hK hP hD hS hA (fun _ => rfl) (by decide) (by decide +kernel) (Nat.le_of_ble_eq_true rfl) (Nat.le_of_ble_eq_true rfl) (Nat.le_of_ble_eq_true rfl) (by decide +kernel : decode prog_6_method_1_code 23 = .ok (.newarray .int, 2)) (fun q3 cA2 H hK2 hP hD hS => ?_)
  have ec := cn_ca0 hK2
  subst ec
  have hP : va_P (dC, dI) am_cl [(h0, .inr (4, [.ref q1, .ref q2, .null, .int 0, .int 0, .int 0, .int 0, .int 0])), (q1, .inl (cA 0, 12, .inl (fun _ => 0))), (q2, .inl (cA 0, 12, .inl (fun _ => 0))), (q3, .inl (cA 0, 24, .inl (fun _ => 0)))] H := hP
  have hD : va_D A [(h0, .inr (4, [.ref q1, .ref q2, .null, .int 0, .int 0, .int 0, .int 0, .int 0])), (q1, .inl (cA 0, 12, .inl (fun _ => 0))), (q2, .inl (cA 0, 12, .inl (fun _ => 0))), (q3, .inl (cA 0, 24, .inl (fun _ => 0)))] := hD
  refine W.widen (k := 3) (n := 48) (Nat.le_of_ble_eq_true rfl) (Nat.le_of_ble_eq_true rfl) ?_
  refine va_putF (D := (dC, dI)) (ci := 4) (v := .ref q3) (ty := (.array .int)) (C := R_4) (T := F_4) (N := 8) hx hb hts ig_4 t_4 t_4_ok n_4 hown hK hP hD hS 0 rfl rfl 2 (by decide) (hts _ (am_m1 (i := 102) rfl rfl)) (fun _ h9 => h9) rfl hin rfl (by decide +kernel) rfl rfl (Nat.le_of_ble_eq_true rfl) (by decide +kernel : decode prog_6_method_1_code 25 = .ok (.putfield 18, 3)) (fun H locs hP hD hS => ?_)
  have hP : va_P (dC, dI) am_cl [(h0, .inr (4, [.ref q1, .ref q2, .ref q3, .int 0, .int 0, .int 0, .int 0, .int 0])), (q1, .inl (cA 0, 12, .inl (fun _ => 0))), (q2, .inl (cA 0, 12, .inl (fun _ => 0))), (q3, .inl (cA 0, 24, .inl (fun _ => 0)))] H := hP
  have hD : va_D A [(h0, .inr (4, [.ref q1, .ref q2, .ref q3, .int 0, .int 0, .int 0, .int 0, .int 0])), (q1, .inl (cA 0, 12, .inl (fun _ => 0))), (q2, .inl (cA 0, 12, .inl (fun _ => 0))), (q3, .inl (cA 0, 24, .inl (fun _ => 0)))] := hD
  refine lv_aload_n hx hb (by decide +kernel : decode prog_6_method_1_code 28 = .ok (.aload_n 0, 1)) rfl (lv_at hl 0 rfl) ?_
  refine lv_iconst (v := 0) hx hb (by decide +kernel : decode prog_6_method_1_code 29 = .ok (.iconst 0, 1)) (by decide) ?_
  refine va_put (D := (dC, dI)) (ci := 4) (v := .int 0) (ty := .int) (C := R_4) (T := F_4) (N := 8) hx hb hts ig_4 t_4 t_4_ok n_4 hown hK hP hD hS 0 rfl rfl 3 (by decide) (hts _ (am_m1 (i := 104) rfl rfl)) (fun _ h9 => h9) rfl (by decide +kernel) rfl rfl (Nat.le_of_ble_eq_true rfl) (by decide +kernel : decode prog_6_method_1_code 30 = .ok (.putfield 21, 3)) (fun H locs hP hD hS => ?_)
  have hP : va_P (dC, dI) am_cl [(h0, .inr (4, [.ref q1, .ref q2, .ref q3, .int 0, .int 0, .int 0, .int 0, .int 0])), (q1, .inl (cA 0, 12, .inl (fun _ => 0))), (q2, .inl (cA 0, 12, .inl (fun _ => 0))), (q3, .inl (cA 0, 24, .inl (fun _ => 0)))] H := hP
  have hD : va_D A [(h0, .inr (4, [.ref q1, .ref q2, .ref q3, .int 0, .int 0, .int 0, .int 0, .int 0])), (q1, .inl (cA 0, 12, .inl (fun _ => 0))), (q2, .inl (cA 0, 12, .inl (fun _ => 0))), (q3, .inl (cA 0, 24, .inl (fun _ => 0)))] := hD
  refine lv_aload_n hx hb (by decide +kernel : decode prog_6_method_1_code 33 = .ok (.aload_n 0, 1)) rfl (lv_at hl 0 rfl) ?_
  refine lv_iconst (v := 1) hx hb (by decide +kernel : decode prog_6_method_1_code 34 = .ok (.iconst 1, 1)) (by decide) ?_
  refine va_put (D := (dC, dI)) (ci := 4) (v := .int 1) (ty := .int) (C := R_4) (T := F_4) (N := 8) hx hb hts ig_4 t_4 t_4_ok n_4 hown hK hP hD hS 0 rfl rfl 4 (by decide) (hts _ (am_m1 (i := 106) rfl rfl)) (fun _ h9 => h9) rfl (by decide +kernel) rfl rfl (Nat.le_of_ble_eq_true rfl) (by decide +kernel : decode prog_6_method_1_code 35 = .ok (.putfield 25, 3)) (fun H locs hP hD hS => ?_)
  have hP : va_P (dC, dI) am_cl [(h0, .inr (4, [.ref q1, .ref q2, .ref q3, .int 0, .int 1, .int 0, .int 0, .int 0])), (q1, .inl (cA 0, 12, .inl (fun _ => 0))), (q2, .inl (cA 0, 12, .inl (fun _ => 0))), (q3, .inl (cA 0, 24, .inl (fun _ => 0)))] H := hP
  have hD : va_D A [(h0, .inr (4, [.ref q1, .ref q2, .ref q3, .int 0, .int 1, .int 0, .int 0, .int 0])), (q1, .inl (cA 0, 12, .inl (fun _ => 0))), (q2, .inl (cA 0, 12, .inl (fun _ => 0))), (q3, .inl (cA 0, 24, .inl (fun _ => 0)))] := hD
  refine lv_aload_n hx hb (by decide +kernel : decode prog_6_method_1_code 38 = .ok (.aload_n 0, 1)) rfl (lv_at hl 0 rfl) ?_
  refine lv_iconst (v := 4) hx hb (by decide +kernel : decode prog_6_method_1_code 39 = .ok (.iconst 4, 1)) (by decide) ?_
  refine va_put (D := (dC, dI)) (ci := 4) (v := .int 4) (ty := .int) (C := R_4) (T := F_4) (N := 8) hx hb hts ig_4 t_4 t_4_ok n_4 hown hK hP hD hS 0 rfl rfl 5 (by decide) (hts _ (am_m1 (i := 109) rfl rfl)) (fun _ h9 => h9) rfl (by decide +kernel) rfl rfl (Nat.le_of_ble_eq_true rfl) (by decide +kernel : decode prog_6_method_1_code 40 = .ok (.putfield 28, 3)) (fun H locs hP hD hS => ?_)
  have hP : va_P (dC, dI) am_cl [(h0, .inr (4, [.ref q1, .ref q2, .ref q3, .int 0, .int 1, .int 4, .int 0, .int 0])), (q1, .inl (cA 0, 12, .inl (fun _ => 0))), (q2, .inl (cA 0, 12, .inl (fun _ => 0))), (q3, .inl (cA 0, 24, .inl (fun _ => 0)))] H := hP
  have hD : va_D A [(h0, .inr (4, [.ref q1, .ref q2, .ref q3, .int 0, .int 1, .int 4, .int 0, .int 0])), (q1, .inl (cA 0, 12, .inl (fun _ => 0))), (q2, .inl (cA 0, 12, .inl (fun _ => 0))), (q3, .inl (cA 0, 24, .inl (fun _ => 0)))] := hD
  refine lv_aload_n hx hb (by decide +kernel : decode prog_6_method_1_code 43 = .ok (.aload_n 0, 1)) rfl (lv_at hl 0 rfl) ?_
  refine lv_bipush (v := 40) hx hb (by decide +kernel : decode prog_6_method_1_code 44 = .ok (.bipush 40, 2)) (by decide) ?_
  refine va_put (D := (dC, dI)) (ci := 4) (v := .int 40) (ty := .int) (C := R_4) (T := F_4) (N := 8) hx hb hts ig_4 t_4 t_4_ok n_4 hown hK hP hD hS 0 rfl rfl 6 (by decide) (hts _ (am_m1 (i := 112) rfl rfl)) (fun _ h9 => h9) rfl (by decide +kernel) rfl rfl (Nat.le_of_ble_eq_true rfl) (by decide +kernel : decode prog_6_method_1_code 46 = .ok (.putfield 31, 3)) (fun H locs hP hD hS => ?_)
  have hP : va_P (dC, dI) am_cl [(h0, .inr (4, [.ref q1, .ref q2, .ref q3, .int 0, .int 1, .int 4, .int 40, .int 0])), (q1, .inl (cA 0, 12, .inl (fun _ => 0))), (q2, .inl (cA 0, 12, .inl (fun _ => 0))), (q3, .inl (cA 0, 24, .inl (fun _ => 0)))] H := hP
  have hD : va_D A [(h0, .inr (4, [.ref q1, .ref q2, .ref q3, .int 0, .int 1, .int 4, .int 40, .int 0])), (q1, .inl (cA 0, 12, .inl (fun _ => 0))), (q2, .inl (cA 0, 12, .inl (fun _ => 0))), (q3, .inl (cA 0, 24, .inl (fun _ => 0)))] := hD
  refine lv_aload_n hx hb (by decide +kernel : decode prog_6_method_1_code 49 = .ok (.aload_n 0, 1)) rfl (lv_at hl 0 rfl) ?_
  refine lv_iconst (v := 0) hx hb (by decide +kernel : decode prog_6_method_1_code 50 = .ok (.iconst 0, 1)) (by decide) ?_
  refine va_put (D := (dC, dI)) (ci := 4) (v := .int 0) (ty := .int) (C := R_4) (T := F_4) (N := 8) hx hb hts ig_4 t_4 t_4_ok n_4 hown hK hP hD hS 0 rfl rfl 7 (by decide) (hts _ (am_m1 (i := 115) rfl rfl)) (fun _ h9 => h9) rfl (by decide +kernel) rfl rfl (Nat.le_of_ble_eq_true rfl) (by decide +kernel : decode prog_6_method_1_code 51 = .ok (.putfield 34, 3)) (fun H locs hP hD hS => ?_)
  have hP : va_P (dC, dI) am_cl [(h0, .inr (4, [.ref q1, .ref q2, .ref q3, .int 0, .int 1, .int 4, .int 40, .int 0])), (q1, .inl (cA 0, 12, .inl (fun _ => 0))), (q2, .inl (cA 0, 12, .inl (fun _ => 0))), (q3, .inl (cA 0, 24, .inl (fun _ => 0)))] H := hP
  have hD : va_D A [(h0, .inr (4, [.ref q1, .ref q2, .ref q3, .int 0, .int 1, .int 4, .int 40, .int 0])), (q1, .inl (cA 0, 12, .inl (fun _ => 0))), (q2, .inl (cA 0, 12, .inl (fun _ => 0))), (q3, .inl (cA 0, 24, .inl (fun _ => 0)))] := hD
  exact W.vret hx hb hr (fun t ht hW => ⟨⟨(), rfl, trivial, q1, q2, q3, by rw [ht]; exact hP, hD⟩, hS.F ht⟩) hS.2.2 (by decide +kernel : decode prog_6_method_1_code 54 = .ok (.return_, 1))
theorem kwcW : Cond.code (⟨"MilkHorse$Walk", "<init>", "()V"⟩ : MethodName) prog_11_method_1_code 1 none ∈ am_tbl := am_m1 (i := 139) rfl rfl
set_option maxHeartbeats 4000000 in
set_option maxRecDepth 100000 in
theorem knW (l : Launch) (dC : Nat → ClassId) (dI : Nat → Nat → Nat) (cA : Nat → ClassId) (h0 sz : Nat) : Met l (⟨"MilkHorse$Walk", "<init>", "()V"⟩ : MethodName) (am_ws (⟨"MilkHorse$Walk", "<init>", "()V"⟩ : MethodName) prog_11_method_1_code 1 none) ({ frames := 1, cells := 4, slots := 84, locals := 32 }) (va_Pc [.ref h0] (fun U => U.heap.size = sz ∧ va_P (dC, dI) am_cl [(h0, .inr (9, [.null, .null, .null, .null, .int 0, .int 0, .int 0, .int 0, .int 0, .int 0, .int 0, .int 0, .int 0, .int 0, .int 0, .int 0, .int 0]))] U.heap ∧ va_K (dC, dI) am_cl (am_tys cA) U ∧ am_N U ∧ va_D (fun _ => True) [(h0, .inr (9, [.null, .null, .null, .null, .int 0, .int 0, .int 0, .int 0, .int 0, .int 0, .int 0, .int 0, .int 0, .int 0, .int 0, .int 0, .int 0]))])) (va_Qv (fun _ : Unit => True) (fun _ t => ∃ q1 q2 q3 q4 : Nat, va_P (dC, dI) am_cl [(h0, .inr (9, [.ref q1, .ref q2, .ref q3, .ref q4, .int 0, .int 0, .int 0, .int 0, .int 0, .int 0, .int 0, .int 0, .int 0, .int 0, .int 0, .int 0, .int 0])), (q1, .inl (cA 0, 12, .inl (fun _ => 0))), (q2, .inl (cA 0, 12, .inl (fun _ => 0))), (q3, .inl (cA 0, 12, .inl (fun _ => 0))), (q4, .inl (cA 0, 48, .inl (fun _ => 0)))] t.heap ∧ va_D (va_A [(h0, .inr (9, [.null, .null, .null, .null, .int 0, .int 0, .int 0, .int 0, .int 0, .int 0, .int 0, .int 0, .int 0, .int 0, .int 0, .int 0, .int 0]))] sz) [(h0, .inr (9, [.ref q1, .ref q2, .ref q3, .ref q4, .int 0, .int 0, .int 0, .int 0, .int 0, .int 0, .int 0, .int 0, .int 0, .int 0, .int 0, .int 0, .int 0])), (q1, .inl (cA 0, 12, .inl (fun _ => 0))), (q2, .inl (cA 0, 12, .inl (fun _ => 0))), (q3, .inl (cA 0, 12, .inl (fun _ => 0))), (q4, .inl (cA 0, 48, .inl (fun _ => 0)))]) (va_A [(h0, .inr (9, [.null, .null, .null, .null, .int 0, .int 0, .int 0, .int 0, .int 0, .int 0, .int 0, .int 0, .int 0, .int 0, .int 0, .int 0, .int 0]))] sz)) 4 84 (va_A [(h0, .inr (9, [.null, .null, .null, .null, .int 0, .int 0, .int 0, .int 0, .int 0, .int 0, .int 0, .int 0, .int 0, .int 0, .int 0, .int 0, .int 0]))] sz) := by
  refine Met.ofW (cc := prog_11_method_1_code) (maxL := 1) (ret := none) (ws' := am_tbl) (by decide +kernel) rfl ?_
  intro p e s m args below meth c s₁ B hml hv
  obtain ⟨rfl, hsz, hP, hK, hN, hD0⟩ := hv
  have hx := B.exec
  have hb := B.bytes
  have hr := B.returns
  have hts0 := atoms_spec (ws := am_ws (⟨"MilkHorse$Walk", "<init>", "()V"⟩ : MethodName) prog_11_method_1_code 1 none) B.pre
  have hts : ∀ w ∈ am_tbl, w.before [.ref h0].toArray s = true := fun w hw => hts0 w (List.mem_cons_of_mem _ hw)
  have hown : s.vm.findClass "MilkHorse$Walk" = some m.cls := findClass_of_methodNamed B.named
  have hlocks := B.notSynchronized
  have hin : meth.name = "<init>" := (name_of_methodNamed B.named B.method).1
  subst hsz
  have hD := hD0.self (sz := s.heap.size)
  generalize hAe : va_A [(h0, .inr (9, [.null, .null, .null, .null, .int 0, .int 0, .int 0, .int 0, .int 0, .int 0, .int 0, .int 0, .int 0, .int 0, .int 0, .int 0, .int 0]))] s.heap.size = A at hD ⊢
  have hA : ∀ q : Nat, s.heap.size ≤ q → A q := fun q h => by rw [← hAe]; exact Or.inr h
  have hS : va_S A s.heap s.heap [] := va_S.rf
  have hl := lv_entry ([.ref h0]) (n := 1) (Nat.le_of_ble_eq_true rfl)
  rw [lg_entry_eq]
  generalize (lg_sl ([.ref h0]) ++ List.replicate (1 - (lg_sl ([.ref h0])).length) Slot.unset).toArray = ls at hl ⊢
  have hl : lv_has ls 1 [(0, .ref h0)] := hl
  refine lv_aload_n hx hb (by decide +kernel : decode prog_11_method_1_code 0 = .ok (.aload_n 0, 1)) rfl (lv_at hl 0 rfl) ?_
  refine W.objInit hx hb hown (hts _ (am_m1 (i := 140) rfl rfl)) (hts _ (am_m1 (i := 23) rfl rfl)) (hts _ (am_m1 (i := 24) rfl rfl)) rfl (by rw [hml]; exact hl.1) rfl (by decide +kernel : decode prog_11_method_1_code 1 = .ok (.invokespecial 3, 3)) (Nat.le_of_ble_eq_true rfl) (Nat.le_of_ble_eq_true rfl) ?_
  refine W.eq (g2 := F0 m 4 ls []) rfl ?_
  refine lv_aload_n hx hb (by decide +kernel : decode prog_11_method_1_code 4 = .ok (.aload_n 0, 1)) rfl (lv_at hl 0 rfl) ?_
  refine lv_bipush (v := 12) hx hb (by decide +kernel : decode prog_11_method_1_code 5 = .ok (.bipush 12, 2)) (by decide) ?_
  refine va_newa (atype := .int) (ty := .int) (N' := 12) (a0 := (12, .inl (fun _ => 0))) hx hb (hts _ (am_m1 (i := 48) rfl rfl)) rfl hK hP hD hS hA (fun _ => rfl) (by decide) (by decide +kernel) (Nat.le_of_ble_eq_true rfl) (Nat.le_of_ble_eq_true rfl) (Nat.le_of_ble_eq_true rfl) (by decide +kernel : decode prog_11_method_1_code 7 = .ok (.newarray .int, 2)) (fun q1 cA2 H hK2 hP hD hS => ?_)
  have ec := cn_ca0 hK2
  subst ec
  have hP : va_P (dC, dI) am_cl [(h0, .inr (9, [.null, .null, .null, .null, .int 0, .int 0, .int 0, .int 0, .int 0, .int 0, .int 0, .int 0, .int 0, .int 0, .int 0, .int 0, .int 0])), (q1, .inl (cA 0, 12, .inl (fun _ => 0)))] H := hP
  have hD : va_D A [(h0, .inr (9, [.null, .null, .null, .null, .int 0, .int 0, .int 0, .int 0, .int 0, .int 0, .int 0, .int 0, .int 0, .int 0, .int 0, .int 0, .int 0])), (q1, .inl (cA 0, 12, .inl (fun _ => 0)))] := hD
  refine W.widen (k := 1) (n := 12) (Nat.le_of_ble_eq_true rfl) (Nat.le_of_ble_eq_true rfl) ?_
  refine va_putF (D := (dC, dI)) (ci := 9) (v := .ref q1) (ty := (.array .int)) (C := R_9) (T := F_9) (N := 17) hx hb hts ig_9 t_9 t_9_ok n_9 hown hK hP hD hS 0 rfl rfl 0 (by decide) (hts _ (am_m1 (i := 141) rfl rfl)) (fun _ h9 => h9) rfl hin rfl (by decide +kernel) rfl rfl (Nat.le_of_ble_eq_true rfl) (by decide +kernel : decode prog_11_method_1_code 9 = .ok (.putfield 9, 3)) (fun H locs hP hD hS => ?_)
  have hP : va_P (dC, dI) am_cl [(h0, .inr (9, [.ref q1, .null, .null, .null, .int 0, .int 0, .int 0, .int 0, .int 0, .int 0, .int 0, .int 0, .int 0, .int 0, .int 0, .int 0, .int 0])), (q1, .inl (cA 0, 12, .inl (fun _ => 0)))] H := hP
  have hD : va_D A [(h0, .inr (9, [.ref q1, .null, .null, .null, .int 0, .int 0, .int 0, .int 0, .int 0, .int 0, .int 0, .int 0, .int 0, .int 0, .int 0, .int 0, .int 0])), (q1, .inl (cA 0, 12, .inl (fun _ => 0)))] := hD
  refine lv_aload_n hx hb (by decide +kernel : decode prog_11_method_1_code 12 = .ok (.aload_n 0, 1)) rfl (lv_at hl 0 rfl) ?_
  refine lv_bipush (v := 12) hx hb (by decide +kernel : decode prog_11_method_1_code 13 = .ok (.bipush 12, 2)) (by decide) ?_
  refine va_newa (atype := .int) (ty := .int) (N' := 12) (a0 := (12, .inl (fun _ => 0))) hx hb (hts _ (am_m1 (i := 48) rfl rfl)) rfl hK hP hD hS hA (fun _ => rfl) (by decide) (by decide +kernel) (Nat.le_of_ble_eq_true rfl) (Nat.le_of_ble_eq_true rfl) (Nat.le_of_ble_eq_true rfl) (by decide +kernel : decode prog_11_method_1_code 15 = .ok (.newarray .int, 2)) (fun q2 cA2 H hK2 hP hD hS => ?_)
  have ec := cn_ca0 hK2
  subst ec
  have hP : va_P (dC, dI) am_cl [(h0, .inr (9, [.ref q1, .null, .null, .null, .int 0, .int 0, .int 0, .int 0, .int 0, .int 0, .int 0, .int 0, .int 0, .int 0, .int 0, .int 0, .int 0])), (q1, .inl (cA 0, 12, .inl (fun _ => 0))), (q2, .inl (cA 0, 12, .inl (fun _ => 0)))] H := hP
  have hD : va_D A [(h0, .inr (9, [.ref q1, .null, .null, .null, .int 0, .int 0, .int 0, .int 0, .int 0, .int 0, .int 0, .int 0, .int 0, .int 0, .int 0, .int 0, .int 0])), (q1, .inl (cA 0, 12, .inl (fun _ => 0))), (q2, .inl (cA 0, 12, .inl (fun _ => 0)))] := hD
  refine W.widen (k := 2) (n := 24) (Nat.le_of_ble_eq_true rfl) (Nat.le_of_ble_eq_true rfl) ?_
  refine va_putF (D := (dC, dI)) (ci := 9) (v := .ref q2) (ty := (.array .int)) (C := R_9) (T := F_9) (N := 17) hx hb hts ig_9 t_9 t_9_ok n_9 hown hK hP hD hS 0 rfl rfl 1 (by decide) (hts _ (am_m1 (i := 143) rfl rfl)) (fun _ h9 => h9) rfl hin rfl (by decide +kernel) rfl rfl (Nat.le_of_ble_eq_true rfl) (by decide +kernel : decode prog_11_method_1_code 17 = .ok (.putfield 15, 3)) (fun H locs hP hD hS => ?_)
  have hP : va_P (dC, dI) am_cl [(h0, .inr (9, [.ref q1, .ref q2, .null, .null, .int 0, .int 0, .int 0, .int 0, .int 0, .int 0, .int 0, .int 0, .int 0, .int 0, .int 0, .int 0, .int 0])), (q1, .inl (cA 0, 12, .inl (fun _ => 0))), (q2, .inl (cA 0, 12, .inl (fun _ => 0)))] H := hP
  have hD : va_D A [(h0, .inr (9, [.ref q1, .ref q2, .null, .null, .int 0, .int 0, .int 0, .int 0, .int 0, .int 0, .int 0, .int 0, .int 0, .int 0, .int 0, .int 0, .int 0])), (q1, .inl (cA 0, 12, .inl (fun _ => 0))), (q2, .inl (cA 0, 12, .inl (fun _ => 0)))] := hD
  refine lv_aload_n hx hb (by decide +kernel : decode prog_11_method_1_code 20 = .ok (.aload_n 0, 1)) rfl (lv_at hl 0 rfl) ?_
  refine lv_bipush (v := 12) hx hb (by decide +kernel : decode prog_11_method_1_code 21 = .ok (.bipush 12, 2)) (by decide) ?_
  refine va_newa (atype := .int) (ty := .int) (N' := 12) (a0 := (12, .inl (fun _ => 0))) hx hb (hts _ (am_m1 (i := 48) rfl rfl)) rfl hK hP hD hS hA (fun _ => rfl) (by decide) (by decide +kernel) (Nat.le_of_ble_eq_true rfl) (Nat.le_of_ble_eq_true rfl) (Nat.le_of_ble_eq_true rfl) (by decide +kernel : decode prog_11_method_1_code 23 = .ok (.newarray .int, 2)) (fun q3 cA2 H hK2 hP hD hS => ?_)
  have ec := cn_ca0 hK2
  subst ec
  have hP : va_P (dC, dI) am_cl [(h0, .inr (9, [.ref q1, .ref q2, .null, .null, .int 0, .int 0, .int 0, .int 0, .int 0, .int 0, .int 0, .int 0, .int 0, .int 0, .int 0, .int 0, .int 0])), (q1, .inl (cA 0, 12, .inl (fun _ => 0))), (q2, .inl (cA 0, 12, .inl (fun _ => 0))), (q3, .inl (cA 0, 12, .inl (fun _ => 0)))] H := hP
  have hD : va_D A [(h0, .inr (9, [.ref q1, .ref q2, .null, .null, .int 0, .int 0, .int 0, .int 0, .int 0, .int 0, .int 0, .int 0, .int 0, .int 0, .int 0, .int 0, .int 0])), (q1, .inl (cA 0, 12, .inl (fun _ => 0))), (q2, .inl (cA 0, 12, .inl (fun _ => 0))), (q3, .inl (cA 0, 12, .inl (fun _ => 0)))] := hD
  refine W.widen (k := 3) (n := 36) (Nat.le_of_ble_eq_true rfl) (Nat.le_of_ble_eq_true rfl) ?_
  refine va_putF (D := (dC, dI)) (ci := 9) (v := .ref q3) (ty := (.array .int)) (C := R_9) (T := F_9) (N := 17) hx hb hts ig_9 t_9 t_9_ok n_9 hown hK hP hD hS 0 rfl rfl 2 (by decide) (hts _ (am_m1 (i := 145) rfl rfl)) (fun _ h9 => h9) rfl hin rfl (by decide +kernel) rfl rfl (Nat.le_of_ble_eq_true rfl) (by decide +kernel : decode prog_11_method_1_code 25 = .ok (.putfield 18, 3)) (fun H locs hP hD hS => ?_)
  have hP : va_P (dC, dI) am_cl [(h0, .inr (9, [.ref q1, .ref q2, .ref q3, .null, .int 0, .int 0, .int 0, .int 0, .int 0, .int 0, .int 0, .int 0, .int 0, .int 0, .int 0, .int 0, .int 0])), (q1, .inl (cA 0, 12, .inl (fun _ => 0))), (q2, .inl (cA 0, 12, .inl (fun _ => 0))), (q3, .inl (cA 0, 12, .inl (fun _ => 0)))] H := hP
  have hD : va_D A [(h0, .inr (9, [.ref q1, .ref q2, .ref q3, .null, .int 0, .int 0, .int 0, .int 0, .int 0, .int 0, .int 0, .int 0, .int 0, .int 0, .int 0, .int 0, .int 0])), (q1, .inl (cA 0, 12, .inl (fun _ => 0))), (q2, .inl (cA 0, 12, .inl (fun _ => 0))), (q3, .inl (cA 0, 12, .inl (fun _ => 0)))] := hD
  refine lv_aload_n hx hb (by decide +kernel : decode prog_11_method_1_code 28 = .ok (.aload_n 0, 1)) rfl (lv_at hl 0 rfl) ?_
  refine lv_bipush (v := 48) hx hb (by decide +kernel : decode prog_11_method_1_code 29 = .ok (.bipush 48, 2)) (by decide) ?_
  refine va_newa (atype := .int) (ty := .int) (N' := 48) (a0 := (48, .inl (fun _ => 0))) hx hb (hts _ (am_m1 (i := 48) rfl rfl)) rfl hK hP hD hS hA (fun _ => rfl) (by decide) (by decide +kernel) (Nat.le_of_ble_eq_true rfl) (Nat.le_of_ble_eq_true rfl) (Nat.le_of_ble_eq_true rfl) (by decide +kernel : decode prog_11_method_1_code 31 = .ok (.newarray .int, 2)) (fun q4 cA2 H hK2 hP hD hS => ?_)
  have ec := cn_ca0 hK2
  subst ec
  have hP : va_P (dC, dI) am_cl [(h0, .inr (9, [.ref q1, .ref q2, .ref q3, .null, .int 0, .int 0, .int 0, .int 0, .int 0, .int 0, .int 0, .int 0, .int 0, .int 0, .int 0, .int 0, .int 0])), (q1, .inl (cA 0, 12, .inl (fun _ => 0))), (q2, .inl (cA 0, 12, .inl (fun _ => 0))), (q3, .inl (cA 0, 12, .inl (fun _ => 0))), (q4, .inl (cA 0, 48, .inl (fun _ => 0)))] H := hP
  have hD : va_D A [(h0, .inr (9, [.ref q1, .ref q2, .ref q3, .null, .int 0, .int 0, .int 0, .int 0, .int 0, .int 0, .int 0, .int 0, .int 0, .int 0, .int 0, .int 0, .int 0])), (q1, .inl (cA 0, 12, .inl (fun _ => 0))), (q2, .inl (cA 0, 12, .inl (fun _ => 0))), (q3, .inl (cA 0, 12, .inl (fun _ => 0))), (q4, .inl (cA 0, 48, .inl (fun _ => 0)))] := hD
  refine W.widen (k := 4) (n := 84) (Nat.le_of_ble_eq_true rfl) (Nat.le_of_ble_eq_true rfl) ?_
  refine va_putF (D := (dC, dI)) (ci := 9) (v := .ref q4) (ty := (.array .int)) (C := R_9) (T := F_9) (N := 17) hx hb hts ig_9 t_9 t_9_ok n_9 hown hK hP hD hS 0 rfl rfl 3 (by decide) (hts _ (am_m1 (i := 147) rfl rfl)) (fun _ h9 => h9) rfl hin rfl (by decide +kernel) rfl rfl (Nat.le_of_ble_eq_true rfl) (by decide +kernel : decode prog_11_method_1_code 33 = .ok (.putfield 21, 3)) (fun H locs hP hD hS => ?_)
  have hP : va_P (dC, dI) am_cl [(h0, .inr (9, [.ref q1, .ref q2, .ref q3, .ref q4, .int 0, .int 0, .int 0, .int 0, .int 0, .int 0, .int 0, .int 0, .int 0, .int 0, .int 0, .int 0, .int 0])), (q1, .inl (cA 0, 12, .inl (fun _ => 0))), (q2, .inl (cA 0, 12, .inl (fun _ => 0))), (q3, .inl (cA 0, 12, .inl (fun _ => 0))), (q4, .inl (cA 0, 48, .inl (fun _ => 0)))] H := hP
  have hD : va_D A [(h0, .inr (9, [.ref q1, .ref q2, .ref q3, .ref q4, .int 0, .int 0, .int 0, .int 0, .int 0, .int 0, .int 0, .int 0, .int 0, .int 0, .int 0, .int 0, .int 0])), (q1, .inl (cA 0, 12, .inl (fun _ => 0))), (q2, .inl (cA 0, 12, .inl (fun _ => 0))), (q3, .inl (cA 0, 12, .inl (fun _ => 0))), (q4, .inl (cA 0, 48, .inl (fun _ => 0)))] := hD
  exact W.vret hx hb hr (fun t ht hW => ⟨⟨(), rfl, trivial, q1, q2, q3, q4, by rw [ht]; exact hP, hD⟩, hS.F ht⟩) hS.2.2 (by decide +kernel : decode prog_11_method_1_code 36 = .ok (.return_, 1))
theorem kwcY : Cond.code (⟨"MilkHorse$Day", "<init>", "()V"⟩ : MethodName) prog_4_method_1_code 1 none ∈ am_tbl := am_m1 (i := 213) rfl rfl
set_option maxHeartbeats 4000000 in
set_option maxRecDepth 100000 in
theorem knY (l : Launch) (dC : Nat → ClassId) (dI : Nat → Nat → Nat) (cA : Nat → ClassId) (h0 sz : Nat) : Met l (⟨"MilkHorse$Day", "<init>", "()V"⟩ : MethodName) (am_ws (⟨"MilkHorse$Day", "<init>", "()V"⟩ : MethodName) prog_4_method_1_code 1 none) ({ frames := 1, cells := 4, slots := 1985, locals := 32 }) (va_Pc [.ref h0] (fun U => U.heap.size = sz ∧ va_P (dC, dI) am_cl [(h0, .inr (2, [.null, .null, .null, .null, .int 0, .int 0, .int 0]))] U.heap ∧ va_K (dC, dI) am_cl (am_tys cA) U ∧ am_N U ∧ va_D (fun _ => True) [(h0, .inr (2, [.null, .null, .null, .null, .int 0, .int 0, .int 0]))])) (va_Qv (fun _ : Unit => True) (fun _ t => ∃ q1 q2 q3 q4 : Nat, va_P (dC, dI) am_cl [(h0, .inr (2, [.ref q1, .ref q2, .ref q3, .ref q4, .int (-1), .int 0, .int 0])), (q1, .inl (cA 0, 240, .inl (fun _ => 0))), (q2, .inl (cA 0, 1728, .inl (fun _ => 0))), (q3, .inl (cA 0, 12, .inl (fun _ => 0))), (q4, .inl (cA 0, 5, .inl (fun _ => 0)))] t.heap ∧ va_D (va_A [(h0, .inr (2, [.null, .null, .null, .null, .int 0, .int 0, .int 0]))] sz) [(h0, .inr (2, [.ref q1, .ref q2, .ref q3, .ref q4, .int (-1), .int 0, .int 0])), (q1, .inl (cA 0, 240, .inl (fun _ => 0))), (q2, .inl (cA 0, 1728, .inl (fun _ => 0))), (q3, .inl (cA 0, 12, .inl (fun _ => 0))), (q4, .inl (cA 0, 5, .inl (fun _ => 0)))]) (va_A [(h0, .inr (2, [.null, .null, .null, .null, .int 0, .int 0, .int 0]))] sz)) 4 1985 (va_A [(h0, .inr (2, [.null, .null, .null, .null, .int 0, .int 0, .int 0]))] sz) := by
  refine Met.ofW (cc := prog_4_method_1_code) (maxL := 1) (ret := none) (ws' := am_tbl) (by decide +kernel) rfl ?_
  intro p e s m args below meth c s₁ B hml hv
  obtain ⟨rfl, hsz, hP, hK, hN, hD0⟩ := hv
  have hx := B.exec
  have hb := B.bytes
  have hr := B.returns
  have hts0 := atoms_spec (ws := am_ws (⟨"MilkHorse$Day", "<init>", "()V"⟩ : MethodName) prog_4_method_1_code 1 none) B.pre
  have hts : ∀ w ∈ am_tbl, w.before [.ref h0].toArray s = true := fun w hw => hts0 w (List.mem_cons_of_mem _ hw)
  have hown : s.vm.findClass "MilkHorse$Day" = some m.cls := findClass_of_methodNamed B.named
  have hlocks := B.notSynchronized
  have hin : meth.name = "<init>" := (name_of_methodNamed B.named B.method).1
  subst hsz
  have hD := hD0.self (sz := s.heap.size)
  generalize hAe : va_A [(h0, .inr (2, [.null, .null, .null, .null, .int 0, .int 0, .int 0]))] s.heap.size = A at hD ⊢
  have hA : ∀ q : Nat, s.heap.size ≤ q → A q := fun q h => by rw [← hAe]; exact Or.inr h
  have hS : va_S A s.heap s.heap [] := va_S.rf
  have hl := lv_entry ([.ref h0]) (n := 1) (Nat.le_of_ble_eq_true rfl)
  rw [lg_entry_eq]
  generalize (lg_sl ([.ref h0]) ++ List.replicate (1 - (lg_sl ([.ref h0])).length) Slot.unset).toArray = ls at hl ⊢
  have hl : lv_has ls 1 [(0, .ref h0)] := hl
  refine lv_aload_n hx hb (by decide +kernel : decode prog_4_method_1_code 0 = .ok (.aload_n 0, 1)) rfl (lv_at hl 0 rfl) ?_
  refine W.objInit hx hb hown (hts _ (am_m1 (i := 214) rfl rfl)) (hts _ (am_m1 (i := 23) rfl rfl)) (hts _ (am_m1 (i := 24) rfl rfl)) rfl (by rw [hml]; exact hl.1) rfl (by decide +kernel : decode prog_4_method_1_code 1 = .ok (.invokespecial 3, 3)) (Nat.le_of_ble_eq_true rfl) (Nat.le_of_ble_eq_true rfl) ?_
  refine W.eq (g2 := F0 m 4 ls []) rfl ?_
  refine lv_aload_n hx hb (by decide +kernel : decode prog_4_method_1_code 4 = .ok (.aload_n 0, 1)) rfl (lv_at hl 0 rfl) ?_
  refine lv_sipush (v := 240) hx hb (by decide +kernel : decode prog_4_method_1_code 5 = .ok (.sipush 240, 3)) (by decide) ?_
  refine va_newa (atype := .int) (ty := .int) (N' := 240) (a0 := (240, .inl (fun _ => 0))) hx hb (hts _ (am_m1 (i := 48) rfl rfl)) rfl hK hP hD hS hA (fun _ => rfl) (by decide) (by decide +kernel) (Nat.le_of_ble_eq_true rfl) (Nat.le_of_ble_eq_true rfl) (Nat.le_of_ble_eq_true rfl) (by decide +kernel : decode prog_4_method_1_code 8 = .ok (.newarray .int, 2)) (fun q1 cA2 H hK2 hP hD hS => ?_)
  have ec := cn_ca0 hK2
  subst ec
  have hP : va_P (dC, dI) am_cl [(h0, .inr (2, [.null, .null, .null, .null, .int 0, .int 0, .int 0])), (q1, .inl (cA 0, 240, .inl (fun _ => 0)))] H := hP
  have hD : va_D A [(h0, .inr (2, [.null, .null, .null, .null, .int 0, .int 0, .int 0])), (q1, .inl (cA 0, 240, .inl (fun _ => 0)))] := hD
  refine W.widen (k := 1) (n := 240) (Nat.le_of_ble_eq_true rfl) (Nat.le_of_ble_eq_true rfl) ?_
  refine va_putF (D := (dC, dI)) (ci := 2) (v := .ref q1) (ty := (.array .int)) (C := R_2) (T := F_2) (N := 7) hx hb hts ig_2 t_2 t_2_ok n_2 hown hK hP hD hS 0 rfl rfl 0 (by decide) (hts _ (am_m1 (i := 215) rfl rfl)) (fun _ h9 => h9) rfl hin rfl (by decide +kernel) rfl rfl (Nat.le_of_ble_eq_true rfl) (by decide +kernel : decode prog_4_method_1_code 10 = .ok (.putfield 9, 3)) (fun H locs hP hD hS => ?_)
  have hP : va_P (dC, dI) am_cl [(h0, .inr (2, [.ref q1, .null, .null, .null, .int 0, .int 0, .int 0])), (q1, .inl (cA 0, 240, .inl (fun _ => 0)))] H := hP
  have hD : va_D A [(h0, .inr (2, [.ref q1, .null, .null, .null, .int 0, .int 0, .int 0])), (q1, .inl (cA 0, 240, .inl (fun _ => 0)))] := hD
  refine lv_aload_n hx hb (by decide +kernel : decode prog_4_method_1_code 13 = .ok (.aload_n 0, 1)) rfl (lv_at hl 0 rfl) ?_
  refine lv_sipush (v := 1728) hx hb (by decide +kernel : decode prog_4_method_1_code 14 = .ok (.sipush 1728, 3)) (by decide) ?_
  refine va_newa (atype := .int) (ty := .int) (N' := 1728) (a0 := (1728, .inl (fun _ => 0))) hx hb (hts _ (am_m1 (i := 48) rfl rfl)) rfl hK hP hD hS hA (fun _ => rfl) (by decide) (by decide +kernel) (Nat.le_of_ble_eq_true rfl) (Nat.le_of_ble_eq_true rfl) (Nat.le_of_ble_eq_true rfl) (by decide +kernel : decode prog_4_method_1_code 17 = .ok (.newarray .int, 2)) (fun q2 cA2 H hK2 hP hD hS => ?_)
  have ec := cn_ca0 hK2
  subst ec
  have hP : va_P (dC, dI) am_cl [(h0, .inr (2, [.ref q1, .null, .null, .null, .int 0, .int 0, .int 0])), (q1, .inl (cA 0, 240, .inl (fun _ => 0))), (q2, .inl (cA 0, 1728, .inl (fun _ => 0)))] H := hP
  have hD : va_D A [(h0, .inr (2, [.ref q1, .null, .null, .null, .int 0, .int 0, .int 0])), (q1, .inl (cA 0, 240, .inl (fun _ => 0))), (q2, .inl (cA 0, 1728, .inl (fun _ => 0)))] := hD
  refine W.widen (k := 2) (n := 1968) (Nat.le_of_ble_eq_true rfl) (Nat.le_of_ble_eq_true rfl) ?_
  refine va_putF (D := (dC, dI)) (ci := 2) (v := .ref q2) (ty := (.array .int)) (C := R_2) (T := F_2) (N := 7) hx hb hts ig_2 t_2 t_2_ok n_2 hown hK hP hD hS 0 rfl rfl 1 (by decide) (hts _ (am_m1 (i := 217) rfl rfl)) (fun _ h9 => h9) rfl hin rfl (by decide +kernel) rfl rfl (Nat.le_of_ble_eq_true rfl) (by decide +kernel : decode prog_4_method_1_code 19 = .ok (.putfield 15, 3)) (fun H locs hP hD hS => ?_)
  have hP : va_P (dC, dI) am_cl [(h0, .inr (2, [.ref q1, .ref q2, .null, .null, .int 0, .int 0, .int 0])), (q1, .inl (cA 0, 240, .inl (fun _ => 0))), (q2, .inl (cA 0, 1728, .inl (fun _ => 0)))] H := hP
  have hD : va_D A [(h0, .inr (2, [.ref q1, .ref q2, .null, .null, .int 0, .int 0, .int 0])), (q1, .inl (cA 0, 240, .inl (fun _ => 0))), (q2, .inl (cA 0, 1728, .inl (fun _ => 0)))] := hD
  refine lv_aload_n hx hb (by decide +kernel : decode prog_4_method_1_code 22 = .ok (.aload_n 0, 1)) rfl (lv_at hl 0 rfl) ?_
  refine lv_bipush (v := 12) hx hb (by decide +kernel : decode prog_4_method_1_code 23 = .ok (.bipush 12, 2)) (by decide) ?_
  refine va_newa (atype := .int) (ty := .int) (N' := 12) (a0 := (12, .inl (fun _ => 0))) hx hb (hts _ (am_m1 (i := 48) rfl rfl)) rfl hK hP hD hS hA (fun _ => rfl) (by decide) (by decide +kernel) (Nat.le_of_ble_eq_true rfl) (Nat.le_of_ble_eq_true rfl) (Nat.le_of_ble_eq_true rfl) (by decide +kernel : decode prog_4_method_1_code 25 = .ok (.newarray .int, 2)) (fun q3 cA2 H hK2 hP hD hS => ?_)
  have ec := cn_ca0 hK2
  subst ec
  have hP : va_P (dC, dI) am_cl [(h0, .inr (2, [.ref q1, .ref q2, .null, .null, .int 0, .int 0, .int 0])), (q1, .inl (cA 0, 240, .inl (fun _ => 0))), (q2, .inl (cA 0, 1728, .inl (fun _ => 0))), (q3, .inl (cA 0, 12, .inl (fun _ => 0)))] H := hP
  have hD : va_D A [(h0, .inr (2, [.ref q1, .ref q2, .null, .null, .int 0, .int 0, .int 0])), (q1, .inl (cA 0, 240, .inl (fun _ => 0))), (q2, .inl (cA 0, 1728, .inl (fun _ => 0))), (q3, .inl (cA 0, 12, .inl (fun _ => 0)))] := hD
  refine W.widen (k := 3) (n := 1980) (Nat.le_of_ble_eq_true rfl) (Nat.le_of_ble_eq_true rfl) ?_
  refine va_putF (D := (dC, dI)) (ci := 2) (v := .ref q3) (ty := (.array .int)) (C := R_2) (T := F_2) (N := 7) hx hb hts ig_2 t_2 t_2_ok n_2 hown hK hP hD hS 0 rfl rfl 2 (by decide) (hts _ (am_m1 (i := 219) rfl rfl)) (fun _ h9 => h9) rfl hin rfl (by decide +kernel) rfl rfl (Nat.le_of_ble_eq_true rfl) (by decide +kernel : decode prog_4_method_1_code 27 = .ok (.putfield 18, 3)) (fun H locs hP hD hS => ?_)
  have hP : va_P (dC, dI) am_cl [(h0, .inr (2, [.ref q1, .ref q2, .ref q3, .null, .int 0, .int 0, .int 0])), (q1, .inl (cA 0, 240, .inl (fun _ => 0))), (q2, .inl (cA 0, 1728, .inl (fun _ => 0))), (q3, .inl (cA 0, 12, .inl (fun _ => 0)))] H := hP
  have hD : va_D A [(h0, .inr (2, [.ref q1, .ref q2, .ref q3, .null, .int 0, .int 0, .int 0])), (q1, .inl (cA 0, 240, .inl (fun _ => 0))), (q2, .inl (cA 0, 1728, .inl (fun _ => 0))), (q3, .inl (cA 0, 12, .inl (fun _ => 0)))] := hD
  refine lv_aload_n hx hb (by decide +kernel : decode prog_4_method_1_code 30 = .ok (.aload_n 0, 1)) rfl (lv_at hl 0 rfl) ?_
  refine lv_iconst (v := 5) hx hb (by decide +kernel : decode prog_4_method_1_code 31 = .ok (.iconst 5, 1)) (by decide) ?_
  refine va_newa (atype := .int) (ty := .int) (N' := 5) (a0 := (5, .inl (fun _ => 0))) hx hb (hts _ (am_m1 (i := 48) rfl rfl)) rfl hK hP hD hS hA (fun _ => rfl) (by decide) (by decide +kernel) (Nat.le_of_ble_eq_true rfl) (Nat.le_of_ble_eq_true rfl) (Nat.le_of_ble_eq_true rfl) (by decide +kernel : decode prog_4_method_1_code 32 = .ok (.newarray .int, 2)) (fun q4 cA2 H hK2 hP hD hS => ?_)
  have ec := cn_ca0 hK2
  subst ec
  have hP : va_P (dC, dI) am_cl [(h0, .inr (2, [.ref q1, .ref q2, .ref q3, .null, .int 0, .int 0, .int 0])), (q1, .inl (cA 0, 240, .inl (fun _ => 0))), (q2, .inl (cA 0, 1728, .inl (fun _ => 0))), (q3, .inl (cA 0, 12, .inl (fun _ => 0))), (q4, .inl (cA 0, 5, .inl (fun _ => 0)))] H := hP
  have hD : va_D A [(h0, .inr (2, [.ref q1, .ref q2, .ref q3, .null, .int 0, .int 0, .int 0])), (q1, .inl (cA 0, 240, .inl (fun _ => 0))), (q2, .inl (cA 0, 1728, .inl (fun _ => 0))), (q3, .inl (cA 0, 12, .inl (fun _ => 0))), (q4, .inl (cA 0, 5, .inl (fun _ => 0)))] := hD
  refine W.widen (k := 4) (n := 1985) (Nat.le_of_ble_eq_true rfl) (Nat.le_of_ble_eq_true rfl) ?_
  refine va_putF (D := (dC, dI)) (ci := 2) (v := .ref q4) (ty := (.array .int)) (C := R_2) (T := F_2) (N := 7) hx hb hts ig_2 t_2 t_2_ok n_2 hown hK hP hD hS 0 rfl rfl 3 (by decide) (hts _ (am_m1 (i := 221) rfl rfl)) (fun _ h9 => h9) rfl hin rfl (by decide +kernel) rfl rfl (Nat.le_of_ble_eq_true rfl) (by decide +kernel : decode prog_4_method_1_code 34 = .ok (.putfield 21, 3)) (fun H locs hP hD hS => ?_)
  have hP : va_P (dC, dI) am_cl [(h0, .inr (2, [.ref q1, .ref q2, .ref q3, .ref q4, .int 0, .int 0, .int 0])), (q1, .inl (cA 0, 240, .inl (fun _ => 0))), (q2, .inl (cA 0, 1728, .inl (fun _ => 0))), (q3, .inl (cA 0, 12, .inl (fun _ => 0))), (q4, .inl (cA 0, 5, .inl (fun _ => 0)))] H := hP
  have hD : va_D A [(h0, .inr (2, [.ref q1, .ref q2, .ref q3, .ref q4, .int 0, .int 0, .int 0])), (q1, .inl (cA 0, 240, .inl (fun _ => 0))), (q2, .inl (cA 0, 1728, .inl (fun _ => 0))), (q3, .inl (cA 0, 12, .inl (fun _ => 0))), (q4, .inl (cA 0, 5, .inl (fun _ => 0)))] := hD
  refine lv_aload_n hx hb (by decide +kernel : decode prog_4_method_1_code 37 = .ok (.aload_n 0, 1)) rfl (lv_at hl 0 rfl) ?_
  refine lv_iconst (v := (-1)) hx hb (by decide +kernel : decode prog_4_method_1_code 38 = .ok (.iconst (-1), 1)) (by decide) ?_
  refine va_put (D := (dC, dI)) (ci := 2) (v := .int (-1)) (ty := .int) (C := R_2) (T := F_2) (N := 7) hx hb hts ig_2 t_2 t_2_ok n_2 hown hK hP hD hS 0 rfl rfl 4 (by decide) (hts _ (am_m1 (i := 223) rfl rfl)) (fun _ h9 => h9) rfl (by decide +kernel) rfl rfl (Nat.le_of_ble_eq_true rfl) (by decide +kernel : decode prog_4_method_1_code 39 = .ok (.putfield 24, 3)) (fun H locs hP hD hS => ?_)
  have hP : va_P (dC, dI) am_cl [(h0, .inr (2, [.ref q1, .ref q2, .ref q3, .ref q4, .int (-1), .int 0, .int 0])), (q1, .inl (cA 0, 240, .inl (fun _ => 0))), (q2, .inl (cA 0, 1728, .inl (fun _ => 0))), (q3, .inl (cA 0, 12, .inl (fun _ => 0))), (q4, .inl (cA 0, 5, .inl (fun _ => 0)))] H := hP
  have hD : va_D A [(h0, .inr (2, [.ref q1, .ref q2, .ref q3, .ref q4, .int (-1), .int 0, .int 0])), (q1, .inl (cA 0, 240, .inl (fun _ => 0))), (q2, .inl (cA 0, 1728, .inl (fun _ => 0))), (q3, .inl (cA 0, 12, .inl (fun _ => 0))), (q4, .inl (cA 0, 5, .inl (fun _ => 0)))] := hD
  refine lv_aload_n hx hb (by decide +kernel : decode prog_4_method_1_code 42 = .ok (.aload_n 0, 1)) rfl (lv_at hl 0 rfl) ?_
  refine lv_iconst (v := 0) hx hb (by decide +kernel : decode prog_4_method_1_code 43 = .ok (.iconst 0, 1)) (by decide) ?_
  refine va_put (D := (dC, dI)) (ci := 2) (v := .int 0) (ty := .int) (C := R_2) (T := F_2) (N := 7) hx hb hts ig_2 t_2 t_2_ok n_2 hown hK hP hD hS 0 rfl rfl 5 (by decide) (hts _ (am_m1 (i := 225) rfl rfl)) (fun _ h9 => h9) rfl (by decide +kernel) rfl rfl (Nat.le_of_ble_eq_true rfl) (by decide +kernel : decode prog_4_method_1_code 44 = .ok (.putfield 28, 3)) (fun H locs hP hD hS => ?_)
  have hP : va_P (dC, dI) am_cl [(h0, .inr (2, [.ref q1, .ref q2, .ref q3, .ref q4, .int (-1), .int 0, .int 0])), (q1, .inl (cA 0, 240, .inl (fun _ => 0))), (q2, .inl (cA 0, 1728, .inl (fun _ => 0))), (q3, .inl (cA 0, 12, .inl (fun _ => 0))), (q4, .inl (cA 0, 5, .inl (fun _ => 0)))] H := hP
  have hD : va_D A [(h0, .inr (2, [.ref q1, .ref q2, .ref q3, .ref q4, .int (-1), .int 0, .int 0])), (q1, .inl (cA 0, 240, .inl (fun _ => 0))), (q2, .inl (cA 0, 1728, .inl (fun _ => 0))), (q3, .inl (cA 0, 12, .inl (fun _ => 0))), (q4, .inl (cA 0, 5, .inl (fun _ => 0)))] := hD
  refine lv_aload_n hx hb (by decide +kernel : decode prog_4_method_1_code 47 = .ok (.aload_n 0, 1)) rfl (lv_at hl 0 rfl) ?_
  refine lv_iconst (v := 0) hx hb (by decide +kernel : decode prog_4_method_1_code 48 = .ok (.iconst 0, 1)) (by decide) ?_
  refine va_put (D := (dC, dI)) (ci := 2) (v := .int 0) (ty := .boolean) (C := R_2) (T := F_2) (N := 7) hx hb hts ig_2 t_2 t_2_ok n_2 hown hK hP hD hS 0 rfl rfl 6 (by decide) (hts _ (am_m1 (i := 227) rfl rfl)) (fun _ h9 => h9) rfl (by decide +kernel) rfl rfl (Nat.le_of_ble_eq_true rfl) (by decide +kernel : decode prog_4_method_1_code 49 = .ok (.putfield 31, 3)) (fun H locs hP hD hS => ?_)
  have hP : va_P (dC, dI) am_cl [(h0, .inr (2, [.ref q1, .ref q2, .ref q3, .ref q4, .int (-1), .int 0, .int 0])), (q1, .inl (cA 0, 240, .inl (fun _ => 0))), (q2, .inl (cA 0, 1728, .inl (fun _ => 0))), (q3, .inl (cA 0, 12, .inl (fun _ => 0))), (q4, .inl (cA 0, 5, .inl (fun _ => 0)))] H := hP
  have hD : va_D A [(h0, .inr (2, [.ref q1, .ref q2, .ref q3, .ref q4, .int (-1), .int 0, .int 0])), (q1, .inl (cA 0, 240, .inl (fun _ => 0))), (q2, .inl (cA 0, 1728, .inl (fun _ => 0))), (q3, .inl (cA 0, 12, .inl (fun _ => 0))), (q4, .inl (cA 0, 5, .inl (fun _ => 0)))] := hD
  exact W.vret hx hb hr (fun t ht hW => ⟨⟨(), rfl, trivial, q1, q2, q3, q4, by rw [ht]; exact hP, hD⟩, hS.F ht⟩) hS.2.2 (by decide +kernel : decode prog_4_method_1_code 52 = .ok (.return_, 1))
theorem kwcO : Cond.code (⟨"MilkHorse$Choice", "<init>", "()V"⟩ : MethodName) prog_3_method_1_code 1 none ∈ am_tbl := am_m2 (i := 8) rfl rfl
set_option maxHeartbeats 4000000 in
set_option maxRecDepth 100000 in
theorem knO (l : Launch) (dC : Nat → ClassId) (dI : Nat → Nat → Nat) (cA : Nat → ClassId) (h0 sz : Nat) : Met l (⟨"MilkHorse$Choice", "<init>", "()V"⟩ : MethodName) (am_ws (⟨"MilkHorse$Choice", "<init>", "()V"⟩ : MethodName) prog_3_method_1_code 1 none) ({ frames := 1, cells := 0, slots := 0, locals := 32 }) (va_Pc [.ref h0] (fun U => U.heap.size = sz ∧ va_P (dC, dI) am_cl [(h0, .inr (1, [.int 0, .int 0, .int 0, .int 0, .int 0]))] U.heap ∧ va_K (dC, dI) am_cl (am_tys cA) U ∧ am_N U ∧ va_D (fun _ => True) [(h0, .inr (1, [.int 0, .int 0, .int 0, .int 0, .int 0]))])) (va_Qv (fun _ : Unit => True) (fun _ t => va_P (dC, dI) am_cl [(h0, .inr (1, [.int (-1), .int (-1), .int (-1), .int (-1), .int 0]))] t.heap ∧ va_D (va_A [(h0, .inr (1, [.int 0, .int 0, .int 0, .int 0, .int 0]))] sz) [(h0, .inr (1, [.int (-1), .int (-1), .int (-1), .int (-1), .int 0]))]) (va_A [(h0, .inr (1, [.int 0, .int 0, .int 0, .int 0, .int 0]))] sz)) 0 0 (va_A [(h0, .inr (1, [.int 0, .int 0, .int 0, .int 0, .int 0]))] sz) := by
  refine Met.ofW (cc := prog_3_method_1_code) (maxL := 1) (ret := none) (ws' := am_tbl) (by decide +kernel) rfl ?_
  intro p e s m args below meth c s₁ B hml hv
  obtain ⟨rfl, hsz, hP, hK, hN, hD0⟩ := hv
  have hx := B.exec
  have hb := B.bytes
  have hr := B.returns
  have hts0 := atoms_spec (ws := am_ws (⟨"MilkHorse$Choice", "<init>", "()V"⟩ : MethodName) prog_3_method_1_code 1 none) B.pre
  have hts : ∀ w ∈ am_tbl, w.before [.ref h0].toArray s = true := fun w hw => hts0 w (List.mem_cons_of_mem _ hw)
  have hown : s.vm.findClass "MilkHorse$Choice" = some m.cls := findClass_of_methodNamed B.named
  have hlocks := B.notSynchronized
  have hin : meth.name = "<init>" := (name_of_methodNamed B.named B.method).1
  subst hsz
  have hD := hD0.self (sz := s.heap.size)
  generalize hAe : va_A [(h0, .inr (1, [.int 0, .int 0, .int 0, .int 0, .int 0]))] s.heap.size = A at hD ⊢
  have hA : ∀ q : Nat, s.heap.size ≤ q → A q := fun q h => by rw [← hAe]; exact Or.inr h
  have hS : va_S A s.heap s.heap [] := va_S.rf
  have hl := lv_entry ([.ref h0]) (n := 1) (Nat.le_of_ble_eq_true rfl)
  rw [lg_entry_eq]
  generalize (lg_sl ([.ref h0]) ++ List.replicate (1 - (lg_sl ([.ref h0])).length) Slot.unset).toArray = ls at hl ⊢
  have hl : lv_has ls 1 [(0, .ref h0)] := hl
  refine lv_aload_n hx hb (by decide +kernel : decode prog_3_method_1_code 0 = .ok (.aload_n 0, 1)) rfl (lv_at hl 0 rfl) ?_
  refine W.objInit hx hb hown (hts _ (am_m2 (i := 9) rfl rfl)) (hts _ (am_m1 (i := 23) rfl rfl)) (hts _ (am_m1 (i := 24) rfl rfl)) rfl (by rw [hml]; exact hl.1) rfl (by decide +kernel : decode prog_3_method_1_code 1 = .ok (.invokespecial 3, 3)) (Nat.le_of_ble_eq_true rfl) (Nat.le_of_ble_eq_true rfl) ?_
  refine W.eq (g2 := F0 m 4 ls []) rfl ?_
  refine lv_aload_n hx hb (by decide +kernel : decode prog_3_method_1_code 4 = .ok (.aload_n 0, 1)) rfl (lv_at hl 0 rfl) ?_
  refine lv_iconst (v := (-1)) hx hb (by decide +kernel : decode prog_3_method_1_code 5 = .ok (.iconst (-1), 1)) (by decide) ?_
  refine va_put (D := (dC, dI)) (ci := 1) (v := .int (-1)) (ty := .int) (C := R_1) (T := F_1) (N := 5) hx hb hts ig_1 t_1 t_1_ok n_1 hown hK hP hD hS 0 rfl rfl 0 (by decide) (hts _ (am_m2 (i := 10) rfl rfl)) (fun _ h9 => h9) rfl (by decide +kernel) rfl rfl (Nat.le_of_ble_eq_true rfl) (by decide +kernel : decode prog_3_method_1_code 6 = .ok (.putfield 9, 3)) (fun H locs hP hD hS => ?_)
  have hP : va_P (dC, dI) am_cl [(h0, .inr (1, [.int (-1), .int 0, .int 0, .int 0, .int 0]))] H := hP
  have hD : va_D A [(h0, .inr (1, [.int (-1), .int 0, .int 0, .int 0, .int 0]))] := hD
  refine lv_aload_n hx hb (by decide +kernel : decode prog_3_method_1_code 9 = .ok (.aload_n 0, 1)) rfl (lv_at hl 0 rfl) ?_
  refine lv_iconst (v := (-1)) hx hb (by decide +kernel : decode prog_3_method_1_code 10 = .ok (.iconst (-1), 1)) (by decide) ?_
  refine va_put (D := (dC, dI)) (ci := 1) (v := .int (-1)) (ty := .int) (C := R_1) (T := F_1) (N := 5) hx hb hts ig_1 t_1 t_1_ok n_1 hown hK hP hD hS 0 rfl rfl 1 (by decide) (hts _ (am_m2 (i := 11) rfl rfl)) (fun _ h9 => h9) rfl (by decide +kernel) rfl rfl (Nat.le_of_ble_eq_true rfl) (by decide +kernel : decode prog_3_method_1_code 11 = .ok (.putfield 15, 3)) (fun H locs hP hD hS => ?_)
  have hP : va_P (dC, dI) am_cl [(h0, .inr (1, [.int (-1), .int (-1), .int 0, .int 0, .int 0]))] H := hP
  have hD : va_D A [(h0, .inr (1, [.int (-1), .int (-1), .int 0, .int 0, .int 0]))] := hD
  refine lv_aload_n hx hb (by decide +kernel : decode prog_3_method_1_code 14 = .ok (.aload_n 0, 1)) rfl (lv_at hl 0 rfl) ?_
  refine lv_iconst (v := (-1)) hx hb (by decide +kernel : decode prog_3_method_1_code 15 = .ok (.iconst (-1), 1)) (by decide) ?_
  refine va_put (D := (dC, dI)) (ci := 1) (v := .int (-1)) (ty := .int) (C := R_1) (T := F_1) (N := 5) hx hb hts ig_1 t_1 t_1_ok n_1 hown hK hP hD hS 0 rfl rfl 2 (by decide) (hts _ (am_m2 (i := 13) rfl rfl)) (fun _ h9 => h9) rfl (by decide +kernel) rfl rfl (Nat.le_of_ble_eq_true rfl) (by decide +kernel : decode prog_3_method_1_code 16 = .ok (.putfield 18, 3)) (fun H locs hP hD hS => ?_)
  have hP : va_P (dC, dI) am_cl [(h0, .inr (1, [.int (-1), .int (-1), .int (-1), .int 0, .int 0]))] H := hP
  have hD : va_D A [(h0, .inr (1, [.int (-1), .int (-1), .int (-1), .int 0, .int 0]))] := hD
  refine lv_aload_n hx hb (by decide +kernel : decode prog_3_method_1_code 19 = .ok (.aload_n 0, 1)) rfl (lv_at hl 0 rfl) ?_
  refine lv_iconst (v := (-1)) hx hb (by decide +kernel : decode prog_3_method_1_code 20 = .ok (.iconst (-1), 1)) (by decide) ?_
  refine va_put (D := (dC, dI)) (ci := 1) (v := .int (-1)) (ty := .int) (C := R_1) (T := F_1) (N := 5) hx hb hts ig_1 t_1 t_1_ok n_1 hown hK hP hD hS 0 rfl rfl 3 (by decide) (hts _ (am_m2 (i := 14) rfl rfl)) (fun _ h9 => h9) rfl (by decide +kernel) rfl rfl (Nat.le_of_ble_eq_true rfl) (by decide +kernel : decode prog_3_method_1_code 21 = .ok (.putfield 21, 3)) (fun H locs hP hD hS => ?_)
  have hP : va_P (dC, dI) am_cl [(h0, .inr (1, [.int (-1), .int (-1), .int (-1), .int (-1), .int 0]))] H := hP
  have hD : va_D A [(h0, .inr (1, [.int (-1), .int (-1), .int (-1), .int (-1), .int 0]))] := hD
  refine lv_aload_n hx hb (by decide +kernel : decode prog_3_method_1_code 24 = .ok (.aload_n 0, 1)) rfl (lv_at hl 0 rfl) ?_
  refine lv_iconst (v := 0) hx hb (by decide +kernel : decode prog_3_method_1_code 25 = .ok (.iconst 0, 1)) (by decide) ?_
  refine va_put (D := (dC, dI)) (ci := 1) (v := .int 0) (ty := .boolean) (C := R_1) (T := F_1) (N := 5) hx hb hts ig_1 t_1 t_1_ok n_1 hown hK hP hD hS 0 rfl rfl 4 (by decide) (hts _ (am_m2 (i := 15) rfl rfl)) (fun _ h9 => h9) rfl (by decide +kernel) rfl rfl (Nat.le_of_ble_eq_true rfl) (by decide +kernel : decode prog_3_method_1_code 26 = .ok (.putfield 24, 3)) (fun H locs hP hD hS => ?_)
  have hP : va_P (dC, dI) am_cl [(h0, .inr (1, [.int (-1), .int (-1), .int (-1), .int (-1), .int 0]))] H := hP
  have hD : va_D A [(h0, .inr (1, [.int (-1), .int (-1), .int (-1), .int (-1), .int 0]))] := hD
  exact W.vret hx hb hr (fun t ht hW => ⟨⟨(), rfl, trivial, by rw [ht]; exact hP, hD⟩, hS.F ht⟩) hS.2.2 (by decide +kernel : decode prog_3_method_1_code 29 = .ok (.return_, 1))
theorem kwcQ : Cond.code (⟨"MilkHorse$Spared", "<init>", "()V"⟩ : MethodName) prog_9_method_1_code 1 none ∈ am_tbl := am_m2 (i := 32) rfl rfl
set_option maxHeartbeats 4000000 in
set_option maxRecDepth 100000 in
theorem knQ (l : Launch) (dC : Nat → ClassId) (dI : Nat → Nat → Nat) (cA : Nat → ClassId) (h0 sz : Nat) : Met l (⟨"MilkHorse$Spared", "<init>", "()V"⟩ : MethodName) (am_ws (⟨"MilkHorse$Spared", "<init>", "()V"⟩ : MethodName) prog_9_method_1_code 1 none) ({ frames := 1, cells := 0, slots := 0, locals := 32 }) (va_Pc [.ref h0] (fun U => U.heap.size = sz ∧ va_P (dC, dI) am_cl [(h0, .inr (7, [.int 0, .int 0, .int 0, .int 0]))] U.heap ∧ va_K (dC, dI) am_cl (am_tys cA) U ∧ am_N U ∧ va_D (fun _ => True) [(h0, .inr (7, [.int 0, .int 0, .int 0, .int 0]))])) (va_Qv (fun _ : Unit => True) (fun _ t => va_P (dC, dI) am_cl [(h0, .inr (7, [.int (-1), .int (-1), .int (-1), .int 0]))] t.heap ∧ va_D (va_A [(h0, .inr (7, [.int 0, .int 0, .int 0, .int 0]))] sz) [(h0, .inr (7, [.int (-1), .int (-1), .int (-1), .int 0]))]) (va_A [(h0, .inr (7, [.int 0, .int 0, .int 0, .int 0]))] sz)) 0 0 (va_A [(h0, .inr (7, [.int 0, .int 0, .int 0, .int 0]))] sz) := by
  refine Met.ofW (cc := prog_9_method_1_code) (maxL := 1) (ret := none) (ws' := am_tbl) (by decide +kernel) rfl ?_
  intro p e s m args below meth c s₁ B hml hv
  obtain ⟨rfl, hsz, hP, hK, hN, hD0⟩ := hv
  have hx := B.exec
  have hb := B.bytes
  have hr := B.returns
  have hts0 := atoms_spec (ws := am_ws (⟨"MilkHorse$Spared", "<init>", "()V"⟩ : MethodName) prog_9_method_1_code 1 none) B.pre
  have hts : ∀ w ∈ am_tbl, w.before [.ref h0].toArray s = true := fun w hw => hts0 w (List.mem_cons_of_mem _ hw)
  have hown : s.vm.findClass "MilkHorse$Spared" = some m.cls := findClass_of_methodNamed B.named
  have hlocks := B.notSynchronized
  have hin : meth.name = "<init>" := (name_of_methodNamed B.named B.method).1
  subst hsz
  have hD := hD0.self (sz := s.heap.size)
  generalize hAe : va_A [(h0, .inr (7, [.int 0, .int 0, .int 0, .int 0]))] s.heap.size = A at hD ⊢
  have hA : ∀ q : Nat, s.heap.size ≤ q → A q := fun q h => by rw [← hAe]; exact Or.inr h
  have hS : va_S A s.heap s.heap [] := va_S.rf
  have hl := lv_entry ([.ref h0]) (n := 1) (Nat.le_of_ble_eq_true rfl)
  rw [lg_entry_eq]
  generalize (lg_sl ([.ref h0]) ++ List.replicate (1 - (lg_sl ([.ref h0])).length) Slot.unset).toArray = ls at hl ⊢
  have hl : lv_has ls 1 [(0, .ref h0)] := hl
  refine lv_aload_n hx hb (by decide +kernel : decode prog_9_method_1_code 0 = .ok (.aload_n 0, 1)) rfl (lv_at hl 0 rfl) ?_
  refine W.objInit hx hb hown (hts _ (am_m2 (i := 33) rfl rfl)) (hts _ (am_m1 (i := 23) rfl rfl)) (hts _ (am_m1 (i := 24) rfl rfl)) rfl (by rw [hml]; exact hl.1) rfl (by decide +kernel : decode prog_9_method_1_code 1 = .ok (.invokespecial 3, 3)) (Nat.le_of_ble_eq_true rfl) (Nat.le_of_ble_eq_true rfl) ?_
  refine W.eq (g2 := F0 m 4 ls []) rfl ?_
  refine lv_aload_n hx hb (by decide +kernel : decode prog_9_method_1_code 4 = .ok (.aload_n 0, 1)) rfl (lv_at hl 0 rfl) ?_
  refine lv_iconst (v := (-1)) hx hb (by decide +kernel : decode prog_9_method_1_code 5 = .ok (.iconst (-1), 1)) (by decide) ?_
  refine va_put (D := (dC, dI)) (ci := 7) (v := .int (-1)) (ty := .int) (C := R_7) (T := F_7) (N := 4) hx hb hts ig_7 t_7 t_7_ok n_7 hown hK hP hD hS 0 rfl rfl 0 (by decide) (hts _ (am_m2 (i := 34) rfl rfl)) (fun _ h9 => h9) rfl (by decide +kernel) rfl rfl (Nat.le_of_ble_eq_true rfl) (by decide +kernel : decode prog_9_method_1_code 6 = .ok (.putfield 9, 3)) (fun H locs hP hD hS => ?_)
  have hP : va_P (dC, dI) am_cl [(h0, .inr (7, [.int (-1), .int 0, .int 0, .int 0]))] H := hP
  have hD : va_D A [(h0, .inr (7, [.int (-1), .int 0, .int 0, .int 0]))] := hD
  refine lv_aload_n hx hb (by decide +kernel : decode prog_9_method_1_code 9 = .ok (.aload_n 0, 1)) rfl (lv_at hl 0 rfl) ?_
  refine lv_iconst (v := (-1)) hx hb (by decide +kernel : decode prog_9_method_1_code 10 = .ok (.iconst (-1), 1)) (by decide) ?_
  refine va_put (D := (dC, dI)) (ci := 7) (v := .int (-1)) (ty := .int) (C := R_7) (T := F_7) (N := 4) hx hb hts ig_7 t_7 t_7_ok n_7 hown hK hP hD hS 0 rfl rfl 1 (by decide) (hts _ (am_m2 (i := 36) rfl rfl)) (fun _ h9 => h9) rfl (by decide +kernel) rfl rfl (Nat.le_of_ble_eq_true rfl) (by decide +kernel : decode prog_9_method_1_code 11 = .ok (.putfield 15, 3)) (fun H locs hP hD hS => ?_)
  have hP : va_P (dC, dI) am_cl [(h0, .inr (7, [.int (-1), .int (-1), .int 0, .int 0]))] H := hP
  have hD : va_D A [(h0, .inr (7, [.int (-1), .int (-1), .int 0, .int 0]))] := hD
  refine lv_aload_n hx hb (by decide +kernel : decode prog_9_method_1_code 14 = .ok (.aload_n 0, 1)) rfl (lv_at hl 0 rfl) ?_
  refine lv_iconst (v := (-1)) hx hb (by decide +kernel : decode prog_9_method_1_code 15 = .ok (.iconst (-1), 1)) (by decide) ?_
  refine va_put (D := (dC, dI)) (ci := 7) (v := .int (-1)) (ty := .int) (C := R_7) (T := F_7) (N := 4) hx hb hts ig_7 t_7 t_7_ok n_7 hown hK hP hD hS 0 rfl rfl 2 (by decide) (hts _ (am_m2 (i := 38) rfl rfl)) (fun _ h9 => h9) rfl (by decide +kernel) rfl rfl (Nat.le_of_ble_eq_true rfl) (by decide +kernel : decode prog_9_method_1_code 16 = .ok (.putfield 18, 3)) (fun H locs hP hD hS => ?_)
  have hP : va_P (dC, dI) am_cl [(h0, .inr (7, [.int (-1), .int (-1), .int (-1), .int 0]))] H := hP
  have hD : va_D A [(h0, .inr (7, [.int (-1), .int (-1), .int (-1), .int 0]))] := hD
  refine lv_aload_n hx hb (by decide +kernel : decode prog_9_method_1_code 19 = .ok (.aload_n 0, 1)) rfl (lv_at hl 0 rfl) ?_
  refine lv_iconst (v := 0) hx hb (by decide +kernel : decode prog_9_method_1_code 20 = .ok (.iconst 0, 1)) (by decide) ?_
  refine va_put (D := (dC, dI)) (ci := 7) (v := .int 0) (ty := .boolean) (C := R_7) (T := F_7) (N := 4) hx hb hts ig_7 t_7 t_7_ok n_7 hown hK hP hD hS 0 rfl rfl 3 (by decide) (hts _ (am_m2 (i := 40) rfl rfl)) (fun _ h9 => h9) rfl (by decide +kernel) rfl rfl (Nat.le_of_ble_eq_true rfl) (by decide +kernel : decode prog_9_method_1_code 21 = .ok (.putfield 21, 3)) (fun H locs hP hD hS => ?_)
  have hP : va_P (dC, dI) am_cl [(h0, .inr (7, [.int (-1), .int (-1), .int (-1), .int 0]))] H := hP
  have hD : va_D A [(h0, .inr (7, [.int (-1), .int (-1), .int (-1), .int 0]))] := hD
  exact W.vret hx hb hr (fun t ht hW => ⟨⟨(), rfl, trivial, by rw [ht]; exact hP, hD⟩, hS.F ht⟩) hS.2.2 (by decide +kernel : decode prog_9_method_1_code 24 = .ok (.return_, 1))
theorem kwcH : Cond.code (⟨"MilkHorse$Chances", "<init>", "()V"⟩ : MethodName) prog_2_method_1_code 1 none ∈ am_tbl := am_m2 (i := 55) rfl rfl
set_option maxHeartbeats 4000000 in
set_option maxRecDepth 100000 in
theorem knH (l : Launch) (dC : Nat → ClassId) (dI : Nat → Nat → Nat) (cA : Nat → ClassId) (h0 sz : Nat) : Met l (⟨"MilkHorse$Chances", "<init>", "()V"⟩ : MethodName) (am_ws (⟨"MilkHorse$Chances", "<init>", "()V"⟩ : MethodName) prog_2_method_1_code 1 none) ({ frames := 1, cells := 2, slots := 265, locals := 32 }) (va_Pc [.ref h0] (fun U => U.heap.size = sz ∧ va_P (dC, dI) am_cl [(h0, .inr (0, [.null, .null, .int 0]))] U.heap ∧ va_K (dC, dI) am_cl (am_tys cA) U ∧ am_N U ∧ va_D (fun _ => True) [(h0, .inr (0, [.null, .null, .int 0]))])) (va_Qv (fun _ : Unit => True) (fun _ t => ∃ q1 q2 : Nat, va_P (dC, dI) am_cl [(h0, .inr (0, [.ref q1, .ref q2, .int 0])), (q1, .inl (cA 0, 256, .inl (fun _ => 0))), (q2, .inl (cA 2, 9, .inr (.inl (fun _ => 0))))] t.heap ∧ va_D (va_A [(h0, .inr (0, [.null, .null, .int 0]))] sz) [(h0, .inr (0, [.ref q1, .ref q2, .int 0])), (q1, .inl (cA 0, 256, .inl (fun _ => 0))), (q2, .inl (cA 2, 9, .inr (.inl (fun _ => 0))))]) (va_A [(h0, .inr (0, [.null, .null, .int 0]))] sz)) 2 265 (va_A [(h0, .inr (0, [.null, .null, .int 0]))] sz) := by
  refine Met.ofW (cc := prog_2_method_1_code) (maxL := 1) (ret := none) (ws' := am_tbl) (by decide +kernel) rfl ?_
  intro p e s m args below meth c s₁ B hml hv
  obtain ⟨rfl, hsz, hP, hK, hN, hD0⟩ := hv
  have hx := B.exec
  have hb := B.bytes
  have hr := B.returns
  have hts0 := atoms_spec (ws := am_ws (⟨"MilkHorse$Chances", "<init>", "()V"⟩ : MethodName) prog_2_method_1_code 1 none) B.pre
  have hts : ∀ w ∈ am_tbl, w.before [.ref h0].toArray s = true := fun w hw => hts0 w (List.mem_cons_of_mem _ hw)
  have hown : s.vm.findClass "MilkHorse$Chances" = some m.cls := findClass_of_methodNamed B.named
  have hlocks := B.notSynchronized
  have hin : meth.name = "<init>" := (name_of_methodNamed B.named B.method).1
  subst hsz
  have hD := hD0.self (sz := s.heap.size)
  generalize hAe : va_A [(h0, .inr (0, [.null, .null, .int 0]))] s.heap.size = A at hD ⊢
  have hA : ∀ q : Nat, s.heap.size ≤ q → A q := fun q h => by rw [← hAe]; exact Or.inr h
  have hS : va_S A s.heap s.heap [] := va_S.rf
  have hl := lv_entry ([.ref h0]) (n := 1) (Nat.le_of_ble_eq_true rfl)
  rw [lg_entry_eq]
  generalize (lg_sl ([.ref h0]) ++ List.replicate (1 - (lg_sl ([.ref h0])).length) Slot.unset).toArray = ls at hl ⊢
  have hl : lv_has ls 1 [(0, .ref h0)] := hl
  refine lv_aload_n hx hb (by decide +kernel : decode prog_2_method_1_code 0 = .ok (.aload_n 0, 1)) rfl (lv_at hl 0 rfl) ?_
  refine W.objInit hx hb hown (hts _ (am_m2 (i := 56) rfl rfl)) (hts _ (am_m1 (i := 23) rfl rfl)) (hts _ (am_m1 (i := 24) rfl rfl)) rfl (by rw [hml]; exact hl.1) rfl (by decide +kernel : decode prog_2_method_1_code 1 = .ok (.invokespecial 3, 3)) (Nat.le_of_ble_eq_true rfl) (Nat.le_of_ble_eq_true rfl) ?_
  refine W.eq (g2 := F0 m 4 ls []) rfl ?_
  refine lv_aload_n hx hb (by decide +kernel : decode prog_2_method_1_code 4 = .ok (.aload_n 0, 1)) rfl (lv_at hl 0 rfl) ?_
  refine lv_sipush (v := 256) hx hb (by decide +kernel : decode prog_2_method_1_code 5 = .ok (.sipush 256, 3)) (by decide) ?_
  refine va_newa (atype := .int) (ty := .int) (N' := 256) (a0 := (256, .inl (fun _ => 0))) hx hb (hts _ (am_m1 (i := 48) rfl rfl)) rfl hK hP hD hS hA (fun _ => rfl) (by decide) (by decide +kernel) (Nat.le_of_ble_eq_true rfl) (Nat.le_of_ble_eq_true rfl) (Nat.le_of_ble_eq_true rfl) (by decide +kernel : decode prog_2_method_1_code 8 = .ok (.newarray .int, 2)) (fun q1 cA2 H hK2 hP hD hS => ?_)
  have ec := cn_ca0 hK2
  subst ec
  have hP : va_P (dC, dI) am_cl [(h0, .inr (0, [.null, .null, .int 0])), (q1, .inl (cA 0, 256, .inl (fun _ => 0)))] H := hP
  have hD : va_D A [(h0, .inr (0, [.null, .null, .int 0])), (q1, .inl (cA 0, 256, .inl (fun _ => 0)))] := hD
  refine W.widen (k := 1) (n := 256) (Nat.le_of_ble_eq_true rfl) (Nat.le_of_ble_eq_true rfl) ?_
  refine va_putF (D := (dC, dI)) (ci := 0) (v := .ref q1) (ty := (.array .int)) (C := R_0) (T := F_0) (N := 3) hx hb hts ig_0 t_0 t_0_ok n_0 hown hK hP hD hS 0 rfl rfl 0 (by decide) (hts _ (am_m2 (i := 57) rfl rfl)) (fun _ h9 => h9) rfl hin rfl (by decide +kernel) rfl rfl (Nat.le_of_ble_eq_true rfl) (by decide +kernel : decode prog_2_method_1_code 10 = .ok (.putfield 9, 3)) (fun H locs hP hD hS => ?_)
  have hP : va_P (dC, dI) am_cl [(h0, .inr (0, [.ref q1, .null, .int 0])), (q1, .inl (cA 0, 256, .inl (fun _ => 0)))] H := hP
  have hD : va_D A [(h0, .inr (0, [.ref q1, .null, .int 0])), (q1, .inl (cA 0, 256, .inl (fun _ => 0)))] := hD
  refine lv_aload_n hx hb (by decide +kernel : decode prog_2_method_1_code 13 = .ok (.aload_n 0, 1)) rfl (lv_at hl 0 rfl) ?_
  refine lv_bipush (v := 9) hx hb (by decide +kernel : decode prog_2_method_1_code 14 = .ok (.bipush 9, 2)) (by decide) ?_
  refine va_newa (atype := .long) (ty := .long) (N' := 9) (a0 := (9, .inr (.inl (fun _ => 0)))) hx hb (hts _ (am_m2 (i := 69) rfl rfl)) rfl hK hP hD hS hA (fun _ => rfl) (by decide) (by decide +kernel) (Nat.le_of_ble_eq_true rfl) (Nat.le_of_ble_eq_true rfl) (Nat.le_of_ble_eq_true rfl) (by decide +kernel : decode prog_2_method_1_code 16 = .ok (.newarray .long, 2)) (fun q2 cA2 H hK2 hP hD hS => ?_)
  have ec := cn_ca2 hK2
  subst ec
  have hP : va_P (dC, dI) am_cl [(h0, .inr (0, [.ref q1, .null, .int 0])), (q1, .inl (cA 0, 256, .inl (fun _ => 0))), (q2, .inl (cA 2, 9, .inr (.inl (fun _ => 0))))] H := hP
  have hD : va_D A [(h0, .inr (0, [.ref q1, .null, .int 0])), (q1, .inl (cA 0, 256, .inl (fun _ => 0))), (q2, .inl (cA 2, 9, .inr (.inl (fun _ => 0))))] := hD
  refine W.widen (k := 2) (n := 265) (Nat.le_of_ble_eq_true rfl) (Nat.le_of_ble_eq_true rfl) ?_
  refine va_putF (D := (dC, dI)) (ci := 0) (v := .ref q2) (ty := (.array .long)) (C := R_0) (T := F_0) (N := 3) hx hb hts ig_0 t_0 t_0_ok n_0 hown hK hP hD hS 0 rfl rfl 1 (by decide) (hts _ (am_m2 (i := 59) rfl rfl)) (fun _ h9 => h9) rfl hin rfl (by decide +kernel) rfl rfl (Nat.le_of_ble_eq_true rfl) (by decide +kernel : decode prog_2_method_1_code 18 = .ok (.putfield 15, 3)) (fun H locs hP hD hS => ?_)
  have hP : va_P (dC, dI) am_cl [(h0, .inr (0, [.ref q1, .ref q2, .int 0])), (q1, .inl (cA 0, 256, .inl (fun _ => 0))), (q2, .inl (cA 2, 9, .inr (.inl (fun _ => 0))))] H := hP
  have hD : va_D A [(h0, .inr (0, [.ref q1, .ref q2, .int 0])), (q1, .inl (cA 0, 256, .inl (fun _ => 0))), (q2, .inl (cA 2, 9, .inr (.inl (fun _ => 0))))] := hD
  refine lv_aload_n hx hb (by decide +kernel : decode prog_2_method_1_code 21 = .ok (.aload_n 0, 1)) rfl (lv_at hl 0 rfl) ?_
  refine lv_iconst (v := 0) hx hb (by decide +kernel : decode prog_2_method_1_code 22 = .ok (.iconst 0, 1)) (by decide) ?_
  refine va_put (D := (dC, dI)) (ci := 0) (v := .int 0) (ty := .boolean) (C := R_0) (T := F_0) (N := 3) hx hb hts ig_0 t_0 t_0_ok n_0 hown hK hP hD hS 0 rfl rfl 2 (by decide) (hts _ (am_m2 (i := 60) rfl rfl)) (fun _ h9 => h9) rfl (by decide +kernel) rfl rfl (Nat.le_of_ble_eq_true rfl) (by decide +kernel : decode prog_2_method_1_code 23 = .ok (.putfield 19, 3)) (fun H locs hP hD hS => ?_)
  have hP : va_P (dC, dI) am_cl [(h0, .inr (0, [.ref q1, .ref q2, .int 0])), (q1, .inl (cA 0, 256, .inl (fun _ => 0))), (q2, .inl (cA 2, 9, .inr (.inl (fun _ => 0))))] H := hP
  have hD : va_D A [(h0, .inr (0, [.ref q1, .ref q2, .int 0])), (q1, .inl (cA 0, 256, .inl (fun _ => 0))), (q2, .inl (cA 2, 9, .inr (.inl (fun _ => 0))))] := hD
  exact W.vret hx hb hr (fun t ht hW => ⟨⟨(), rfl, trivial, q1, q2, by rw [ht]; exact hP, hD⟩, hS.F ht⟩) hS.2.2 (by decide +kernel : decode prog_2_method_1_code 26 = .ok (.return_, 1))
theorem kwcG : Cond.code (⟨"MilkHorse$Sheet", "<init>", "()V"⟩ : MethodName) prog_7_method_1_code 1 none ∈ am_tbl := am_m2 (i := 75) rfl rfl
set_option maxHeartbeats 4000000 in
set_option maxRecDepth 100000 in
theorem knG (l : Launch) (dC : Nat → ClassId) (dI : Nat → Nat → Nat) (cA : Nat → ClassId) (h0 sz : Nat) : Met l (⟨"MilkHorse$Sheet", "<init>", "()V"⟩ : MethodName) (am_ws (⟨"MilkHorse$Sheet", "<init>", "()V"⟩ : MethodName) prog_7_method_1_code 1 none) ({ frames := 1, cells := 1, slots := 60, locals := 32 }) (va_Pc [.ref h0] (fun U => U.heap.size = sz ∧ va_P (dC, dI) am_cl [(h0, .inr (5, [.null, .int 0, .int 0, .int 0]))] U.heap ∧ va_K (dC, dI) am_cl (am_tys cA) U ∧ am_N U ∧ va_D (fun _ => True) [(h0, .inr (5, [.null, .int 0, .int 0, .int 0]))])) (va_Qv (fun _ : Unit => True) (fun _ t => ∃ q1 : Nat, va_P (dC, dI) am_cl [(h0, .inr (5, [.ref q1, .int 0, .int 0, .int 1])), (q1, .inl (cA 0, 60, .inl (fun _ => 0)))] t.heap ∧ va_D (va_A [(h0, .inr (5, [.null, .int 0, .int 0, .int 0]))] sz) [(h0, .inr (5, [.ref q1, .int 0, .int 0, .int 1])), (q1, .inl (cA 0, 60, .inl (fun _ => 0)))]) (va_A [(h0, .inr (5, [.null, .int 0, .int 0, .int 0]))] sz)) 1 60 (va_A [(h0, .inr (5, [.null, .int 0, .int 0, .int 0]))] sz) := by
  refine Met.ofW (cc := prog_7_method_1_code) (maxL := 1) (ret := none) (ws' := am_tbl) (by decide +kernel) rfl ?_
  intro p e s m args below meth c s₁ B hml hv
  obtain ⟨rfl, hsz, hP, hK, hN, hD0⟩ := hv
  have hx := B.exec
  have hb := B.bytes
  have hr := B.returns
  have hts0 := atoms_spec (ws := am_ws (⟨"MilkHorse$Sheet", "<init>", "()V"⟩ : MethodName) prog_7_method_1_code 1 none) B.pre
  have hts : ∀ w ∈ am_tbl, w.before [.ref h0].toArray s = true := fun w hw => hts0 w (List.mem_cons_of_mem _ hw)
  have hown : s.vm.findClass "MilkHorse$Sheet" = some m.cls := findClass_of_methodNamed B.named
  have hlocks := B.notSynchronized
  have hin : meth.name = "<init>" := (name_of_methodNamed B.named B.method).1
  subst hsz
  have hD := hD0.self (sz := s.heap.size)
  generalize hAe : va_A [(h0, .inr (5, [.null, .int 0, .int 0, .int 0]))] s.heap.size = A at hD ⊢
  have hA : ∀ q : Nat, s.heap.size ≤ q → A q := fun q h => by rw [← hAe]; exact Or.inr h
  have hS : va_S A s.heap s.heap [] := va_S.rf
  have hl := lv_entry ([.ref h0]) (n := 1) (Nat.le_of_ble_eq_true rfl)
  rw [lg_entry_eq]
  generalize (lg_sl ([.ref h0]) ++ List.replicate (1 - (lg_sl ([.ref h0])).length) Slot.unset).toArray = ls at hl ⊢
  have hl : lv_has ls 1 [(0, .ref h0)] := hl
  refine lv_aload_n hx hb (by decide +kernel : decode prog_7_method_1_code 0 = .ok (.aload_n 0, 1)) rfl (lv_at hl 0 rfl) ?_
  refine W.objInit hx hb hown (hts _ (am_m2 (i := 76) rfl rfl)) (hts _ (am_m1 (i := 23) rfl rfl)) (hts _ (am_m1 (i := 24) rfl rfl)) rfl (by rw [hml]; exact hl.1) rfl (by decide +kernel : decode prog_7_method_1_code 1 = .ok (.invokespecial 3, 3)) (Nat.le_of_ble_eq_true rfl) (Nat.le_of_ble_eq_true rfl) ?_
  refine W.eq (g2 := F0 m 4 ls []) rfl ?_
  refine lv_aload_n hx hb (by decide +kernel : decode prog_7_method_1_code 4 = .ok (.aload_n 0, 1)) rfl (lv_at hl 0 rfl) ?_
  refine lv_bipush (v := 60) hx hb (by decide +kernel : decode prog_7_method_1_code 5 = .ok (.bipush 60, 2)) (by decide) ?_
  refine va_newa (atype := .int) (ty := .int) (N' := 60) (a0 := (60, .inl (fun _ => 0))) hx hb (hts _ (am_m1 (i := 48) rfl rfl)) rfl hK hP hD hS hA (fun _ => rfl) (by decide) (by decide +kernel) (Nat.le_of_ble_eq_true rfl) (Nat.le_of_ble_eq_true rfl) (Nat.le_of_ble_eq_true rfl) (by decide +kernel : decode prog_7_method_1_code 7 = .ok (.newarray .int, 2)) (fun q1 cA2 H hK2 hP hD hS => ?_)
  have ec := cn_ca0 hK2
  subst ec
  have hP : va_P (dC, dI) am_cl [(h0, .inr (5, [.null, .int 0, .int 0, .int 0])), (q1, .inl (cA 0, 60, .inl (fun _ => 0)))] H := hP
  have hD : va_D A [(h0, .inr (5, [.null, .int 0, .int 0, .int 0])), (q1, .inl (cA 0, 60, .inl (fun _ => 0)))] := hD
  refine W.widen (k := 1) (n := 60) (Nat.le_of_ble_eq_true rfl) (Nat.le_of_ble_eq_true rfl) ?_
  refine va_putF (D := (dC, dI)) (ci := 5) (v := .ref q1) (ty := (.array .int)) (C := R_5) (T := F_5) (N := 4) hx hb hts ig_5 t_5 t_5_ok n_5 hown hK hP hD hS 0 rfl rfl 0 (by decide) (hts _ (am_m2 (i := 77) rfl rfl)) (fun _ h9 => h9) rfl hin rfl (by decide +kernel) rfl rfl (Nat.le_of_ble_eq_true rfl) (by decide +kernel : decode prog_7_method_1_code 9 = .ok (.putfield 9, 3)) (fun H locs hP hD hS => ?_)
  have hP : va_P (dC, dI) am_cl [(h0, .inr (5, [.ref q1, .int 0, .int 0, .int 0])), (q1, .inl (cA 0, 60, .inl (fun _ => 0)))] H := hP
  have hD : va_D A [(h0, .inr (5, [.ref q1, .int 0, .int 0, .int 0])), (q1, .inl (cA 0, 60, .inl (fun _ => 0)))] := hD
  refine lv_aload_n hx hb (by decide +kernel : decode prog_7_method_1_code 12 = .ok (.aload_n 0, 1)) rfl (lv_at hl 0 rfl) ?_
  refine lv_iconst (v := 0) hx hb (by decide +kernel : decode prog_7_method_1_code 13 = .ok (.iconst 0, 1)) (by decide) ?_
  refine va_put (D := (dC, dI)) (ci := 5) (v := .int 0) (ty := .int) (C := R_5) (T := F_5) (N := 4) hx hb hts ig_5 t_5 t_5_ok n_5 hown hK hP hD hS 0 rfl rfl 1 (by decide) (hts _ (am_m2 (i := 79) rfl rfl)) (fun _ h9 => h9) rfl (by decide +kernel) rfl rfl (Nat.le_of_ble_eq_true rfl) (by decide +kernel : decode prog_7_method_1_code 14 = .ok (.putfield 15, 3)) (fun H locs hP hD hS => ?_)
  have hP : va_P (dC, dI) am_cl [(h0, .inr (5, [.ref q1, .int 0, .int 0, .int 0])), (q1, .inl (cA 0, 60, .inl (fun _ => 0)))] H := hP
  have hD : va_D A [(h0, .inr (5, [.ref q1, .int 0, .int 0, .int 0])), (q1, .inl (cA 0, 60, .inl (fun _ => 0)))] := hD
  refine lv_aload_n hx hb (by decide +kernel : decode prog_7_method_1_code 17 = .ok (.aload_n 0, 1)) rfl (lv_at hl 0 rfl) ?_
  refine lv_iconst (v := 0) hx hb (by decide +kernel : decode prog_7_method_1_code 18 = .ok (.iconst 0, 1)) (by decide) ?_
  refine va_put (D := (dC, dI)) (ci := 5) (v := .int 0) (ty := .int) (C := R_5) (T := F_5) (N := 4) hx hb hts ig_5 t_5 t_5_ok n_5 hown hK hP hD hS 0 rfl rfl 2 (by decide) (hts _ (am_m2 (i := 81) rfl rfl)) (fun _ h9 => h9) rfl (by decide +kernel) rfl rfl (Nat.le_of_ble_eq_true rfl) (by decide +kernel : decode prog_7_method_1_code 19 = .ok (.putfield 19, 3)) (fun H locs hP hD hS => ?_)
  have hP : va_P (dC, dI) am_cl [(h0, .inr (5, [.ref q1, .int 0, .int 0, .int 0])), (q1, .inl (cA 0, 60, .inl (fun _ => 0)))] H := hP
  have hD : va_D A [(h0, .inr (5, [.ref q1, .int 0, .int 0, .int 0])), (q1, .inl (cA 0, 60, .inl (fun _ => 0)))] := hD
  refine lv_aload_n hx hb (by decide +kernel : decode prog_7_method_1_code 22 = .ok (.aload_n 0, 1)) rfl (lv_at hl 0 rfl) ?_
  refine lv_iconst (v := 1) hx hb (by decide +kernel : decode prog_7_method_1_code 23 = .ok (.iconst 1, 1)) (by decide) ?_
  refine va_put (D := (dC, dI)) (ci := 5) (v := .int 1) (ty := .boolean) (C := R_5) (T := F_5) (N := 4) hx hb hts ig_5 t_5 t_5_ok n_5 hown hK hP hD hS 0 rfl rfl 3 (by decide) (hts _ (am_m2 (i := 83) rfl rfl)) (fun _ h9 => h9) rfl (by decide +kernel) rfl rfl (Nat.le_of_ble_eq_true rfl) (by decide +kernel : decode prog_7_method_1_code 24 = .ok (.putfield 22, 3)) (fun H locs hP hD hS => ?_)
  have hP : va_P (dC, dI) am_cl [(h0, .inr (5, [.ref q1, .int 0, .int 0, .int 1])), (q1, .inl (cA 0, 60, .inl (fun _ => 0)))] H := hP
  have hD : va_D A [(h0, .inr (5, [.ref q1, .int 0, .int 0, .int 1])), (q1, .inl (cA 0, 60, .inl (fun _ => 0)))] := hD
  exact W.vret hx hb hr (fun t ht hW => ⟨⟨(), rfl, trivial, q1, by rw [ht]; exact hP, hD⟩, hS.F ht⟩) hS.2.2 (by decide +kernel : decode prog_7_method_1_code 27 = .ok (.return_, 1))
