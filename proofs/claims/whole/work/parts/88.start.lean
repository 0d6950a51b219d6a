set_option maxHeartbeats 4000000 in
set_option maxRecDepth 100000 in
theorem whole_start {p : Program} {e : Env} {s : State} {m : MethodId} {below : List Frame} {meth : Method} {c : Code} (l : Launch) (hflags : l.flags = flags0) {b L : Nat} {xs : Nat → Int32} (hL : L ≤ 3072) (C0 : lw_At p s m meth c b L xs) : W p l e room_1 s m #[Value.ref b] below meth c s.heap [] 0 0 (lw_Z below #[Value.ref b] s) (entryFrame m ([Value.ref b] : List Value).toArray 4) := by
  obtain ⟨hx, hb, hr, hml, hown0, hts0, hX, hbl, hlocks, hgv⟩ := C0
  have hown : s.vm.findClass "MilkHorseLaw" = some m.cls := hown0
  have hts : ∀ w ∈ am_tbl, w.before #[Value.ref b] s = true := fun w hw => hts0 w (List.mem_filter.mp hw).1
  have hN : am_N s := am_N_of hts0
  have hO : va_AO "MilkHorse$Sheet" s := va_AO.of (hts0 (.arrayOver (.object "MilkHorse$Sheet")) (List.mem_append_right _ (List.mem_append_right _ (List.mem_append_left _ (List.mem_of_getElem? (i := 71) rfl)))))
  obtain ⟨c0, i0, k0⟩ := u_known (N := 3) hts ig_0 (hts _ (am_m2 (i := 52) rfl rfl))
  obtain ⟨c1, i1, k1⟩ := u_known (N := 5) hts ig_1 (hts _ (am_m2 (i := 5) rfl rfl))
  obtain ⟨c2, i2, k2⟩ := u_known (N := 7) hts ig_2 (hts _ (am_m1 (i := 210) rfl rfl))
  obtain ⟨c3, i3, k3⟩ := u_known (N := 4) hts ig_3 (hts _ (am_m1 (i := 50) rfl rfl))
  obtain ⟨c4, i4, k4⟩ := u_known (N := 8) hts ig_4 (hts _ (am_m1 (i := 91) rfl rfl))
  obtain ⟨c5, i5, k5⟩ := u_known (N := 4) hts ig_5 (hts _ (am_m2 (i := 72) rfl rfl))
  obtain ⟨c6, i6, k6⟩ := u_known (N := 3) hts ig_6 (hts _ (am_m1 (i := 74) rfl rfl))
  obtain ⟨c7, i7, k7⟩ := u_known (N := 4) hts ig_7 (hts _ (am_m2 (i := 29) rfl rfl))
  obtain ⟨c8, i8, k8⟩ := u_known (N := 5) hts ig_8 (hts _ (am_m1 (i := 26) rfl rfl))
  obtain ⟨c9, i9, k9⟩ := u_known (N := 17) hts ig_9 (hts _ (am_m1 (i := 136) rfl rfl))
  obtain ⟨c10, i10, k10⟩ := u_known (N := 17) hts ig_10 (hts _ (am_m1 (i := 18) rfl rfl))
  obtain ⟨c11, i11, k11⟩ := u_known (N := 52) hts ig_11 (hts _ (am_m4 (i := 99) rfl rfl))
  obtain ⟨a0, ka0, co0, fa0, ga0, ha0⟩ := Cond.arrayClass_spec (hts _ (am_m1 (i := 48) rfl rfl))
  obtain ⟨a1, ka1, co1, fa1, ga1, ha1⟩ := Cond.arrayClass_spec (hts _ (am_m5 (i := 21) rfl rfl))
  obtain ⟨a2, ka2, co2, fa2, ga2, ha2⟩ := Cond.arrayClass_spec (hts _ (am_m2 (i := 69) rfl rfl))
  obtain ⟨co3, a3, ka3, fb3, _, ga3, ha3, fa3⟩ := Cond.arrayOver_spec hO
  obtain ⟨dC, hdC⟩ : ∃ dC : Nat → ClassId, dC = fun k => match k with | 0 => c0 | 1 => c1 | 2 => c2 | 3 => c3 | 4 => c4 | 5 => c5 | 6 => c6 | 7 => c7 | 8 => c8 | 9 => c9 | 10 => c10 | _ => c11 := ⟨_, rfl⟩
  obtain ⟨dI, hdI⟩ : ∃ dI : Nat → Nat → Nat, dI = fun k => match k with | 0 => i0 | 1 => i1 | 2 => i2 | 3 => i3 | 4 => i4 | 5 => i5 | 6 => i6 | 7 => i7 | 8 => i8 | 9 => i9 | 10 => i10 | _ => i11 := ⟨_, rfl⟩
  obtain ⟨cA, hcA⟩ : ∃ cA : Nat → ClassId, cA = fun k => match k with | 0 => a0 | 1 => a1 | 2 => a2 | _ => a3 := ⟨_, rfl⟩
  have hK : va_K (dC, dI) am_cl (am_tys cA) s := by
    subst hdC hdI hcA
    refine ⟨fun c q hq => ?_, fun k q hq => ?_⟩
    · match c, hq with
      | 0, hq => cases hq; exact k0
      | 1, hq => cases hq; exact k1
      | 2, hq => cases hq; exact k2
      | 3, hq => cases hq; exact k3
      | 4, hq => cases hq; exact k4
      | 5, hq => cases hq; exact k5
      | 6, hq => cases hq; exact k6
      | 7, hq => cases hq; exact k7
      | 8, hq => cases hq; exact k8
      | 9, hq => cases hq; exact k9
      | 10, hq => cases hq; exact k10
      | 11, hq => cases hq; exact k11
      | c + 12, hq => simp [am_cl] at hq
    · match k, hq with
      | 0, hq => cases hq; exact ⟨fun n z => ⟨fun k h => (by cases h), ka0, ga0, co0, ha0⟩, fa0⟩
      | 1, hq => cases hq; exact ⟨fun n z => ⟨fun k h => (by cases h), ka1, ga1, co1, ha1⟩, fa1⟩
      | 2, hq => cases hq; exact ⟨fun n z => ⟨fun k h => (by cases h), ka2, ga2, co2, ha2⟩, fa2⟩
      | 3, hq => cases hq; exact ⟨fun n z => ⟨fun k h => (by cases h), ka3, ga3, co3, ha3⟩, ka3, co3, ga3, ha3, fb3, fa3⟩
      | k + 4, hq => simp [am_tys] at hq
  obtain ⟨A, hAe⟩ : ∃ A : Nat → Prop, A = fun q => s.heap.size ≤ q := ⟨_, rfl⟩
  have hA : ∀ q : Nat, s.heap.size ≤ q → A q := fun q h => by rw [hAe]; exact h
  have hS : va_S A s.heap s.heap [] := va_S.rf
  have hP : va_P (dC, dI) am_cl [] s.heap := fun k q h => by simp at h
  have hD : va_D A [] := ⟨fun i j p q h => by simp at h, fun k q h => by simp at h⟩
  have hl := lv_entry ([Value.ref b]) (n := 4) (Nat.le_of_ble_eq_true rfl)
  rw [lg_entry_eq]
  generalize (lg_sl ([Value.ref b]) ++ List.replicate (4 - (lg_sl ([Value.ref b])).length) Slot.unset).toArray = ls at hl ⊢
  have hl : lv_has ls 4 [(0, .ref b)] := hl
  refine va_new (ci := 10) (fs := [.null, .null, .null, .null, .null, .null, .null, .null, .null, .null, .null, .null, .null, .null, .null, .null, .int 0]) (C := R_10) (T := F_10) (N := 17) hx hb hts ig_10 t_10 t_10_ok hown (hts _ (am_m1 (i := 17) rfl rfl)) (hts _ (am_m1 (i := 18) rfl rfl)) (hts _ (am_m1 (i := 1) rfl rfl)) hK hP hD hS hA rfl (fun j hj => by rcases (show j = 0 ∨ j = 1 ∨ j = 2 ∨ j = 3 ∨ j = 4 ∨ j = 5 ∨ j = 6 ∨ j = 7 ∨ j = 8 ∨ j = 9 ∨ j = 10 ∨ j = 11 ∨ j = 12 ∨ j = 13 ∨ j = 14 ∨ j = 15 ∨ j = 16 by omega) with rfl | rfl | rfl | rfl | rfl | rfl | rfl | rfl | rfl | rfl | rfl | rfl | rfl | rfl | rfl | rfl | rfl <;> rfl) (Nat.le_of_ble_eq_true rfl) (Nat.le_of_ble_eq_true rfl) (by decide +kernel : decode code 0 = .ok (.new 7, 3)) (fun x0 H hP hD hS => ?_)
  have hP : va_P (dC, dI) am_cl [(x0, .inr (10, [.null, .null, .null, .null, .null, .null, .null, .null, .null, .null, .null, .null, .null, .null, .null, .null, .int 0]))] H := hP
  have hD : va_D A [(x0, .inr (10, [.null, .null, .null, .null, .null, .null, .null, .null, .null, .null, .null, .null, .null, .null, .null, .null, .int 0]))] := hD
  refine W.widen (k := 1) (n := 17) (Nat.le_of_ble_eq_true rfl) (Nat.le_of_ble_eq_true rfl) ?_
  refine lv_dup hx hb (by decide +kernel : decode code 3 = .ok (.dup, 1)) rfl ?_
  have hPc := hP
  have hDc := hD
  have hFc := va_free (wc := [(x0, .inr (10, [.null, .null, .null, .null, .null, .null, .null, .null, .null, .null, .null, .null, .null, .null, .null, .null, .int 0]))]) hD hS hA [0] rfl
  refine va_callv (va_runI (As := []) (rest := [.ref x0]) ⟨hx, hb, hml, hown, hts⟩ (knX l dC dI cA x0 H.size) (cwI 0 hts (am_GW kwcX) rfl rfl rfl (hts _ (am_m1 (i := 1) rfl rfl)) (hts _ (am_m1 (i := 19) rfl rfl)) (hts _ (am_m1 (i := 20) rfl rfl)) rfl (by decide +kernel) ⟨Nat.le_of_ble_eq_true rfl, Nat.le_of_ble_eq_true rfl⟩) ⟨fun a U g mk q => ⟨q.1, q.2.1, q.2.2.1, va_K.moved (u := U) (U := U.calling g mk a) (Vm.Alike.refl U.vm) q.2.2.2.1, am_N_vm (u := U) (U := U.calling g mk a) rfl q.2.2.2.2.1, q.2.2.2.2.2.1, va_AO.moved (u := U) (U := U.calling g mk a) (Vm.Alike.refl U.vm) q.2.2.2.2.2.2⟩, fun U hU hW => ⟨rfl, by rw [hU], by rw [hU]; exact hPc, va_K.moved hW.alike hK, am_N_warm hW hN, hDc.weaken (fun _ _ _ _ => trivial), va_AO.moved hW.alike hO⟩⟩ rfl rfl hl.1 rfl (lv_room (Nat.le_of_ble_eq_true rfl)) (by decide +kernel : decode code 4 = .ok (.invokespecial 9, 3)) ⟨Nat.le_of_ble_eq_true rfl, Nat.le_of_ble_eq_true rfl⟩) hS (fun q _ h => hFc q h) hFc (fun u t H1 locs ht hvm hw hB hz1 hk1 hS => ?_)
  obtain ⟨q1, q2, q3, q4, q5, q6, q7, q8, q9, q10, q11, q12, q13, q14, q15, q16, q17, q18, q19, q20, q21, q22, q23, q24, q25, q26, q27, q28, q29, q30, q31, q32, q33, q34, q35, q36, q37, q38, q39, q40, q41, q42, q43, q44, q45, q46, q47, q48, hP1, hD1⟩ := hB
  rw [ht] at hP1
  obtain ⟨ad1, e1, hP, hD1⟩ := cw49 cA x0 q1 q2 q3 q4 q5 q6 q7 q8 q9 q10 q11 q12 q13 q14 q15 q16 q17 q18 q19 q20 q21 q22 q23 q24 q25 q26 q27 q28 q29 q30 q31 q32 q33 q34 q35 q36 q37 q38 q39 q40 q41 q42 q43 q44 q45 q46 q47 q48 hP1 hD1
  have hD : va_D A (w49 ad1 cA) := hD1.weaken (fun k q _ h => hFc _ h)
  generalize H1 = H at hP hS ⊢
  refine W.widen (k := 49) (n := 3479) (Nat.le_of_ble_eq_true rfl) (Nat.le_of_ble_eq_true rfl) ?_
  refine lv_astore_n (lv' := [(1, .ref x0), (0, .ref b)]) hx hb (by decide +kernel : decode code 7 = .ok (.astore_n 1, 1)) rfl hl (by decide) rfl (fun ls hl => ?_)
  refine va_new (ci := 11) (fs := [.null, .null, .null, .null, .int 0, .null, .null, .int 0, .null, .null, .null, .null, .null, .int 0, .int 0, .int 0, .int 0, .int 0, .int 0, .int 0, .int 0, .int 0, .int 0, .int 0, .int 0, .int 0, .int 0, .int 0, .int 0, .null, .null, .null, .null, .null, .null, .null, .null, .null, .int 0, .int 0, .int 0, .null, .int 0, .null, .null, .null, .null, .null, .null, .null, .null, .int 0]) (C := R_11) (T := F_11) (N := 52) hx hb hts ig_11 t_11 t_11_ok hown (hts _ (am_m4 (i := 98) rfl rfl)) (hts _ (am_m4 (i := 99) rfl rfl)) (hts _ (am_m1 (i := 12) rfl rfl)) hK hP hD hS hA rfl (fun j hj => by rcases (show j = 0 ∨ j = 1 ∨ j = 2 ∨ j = 3 ∨ j = 4 ∨ j = 5 ∨ j = 6 ∨ j = 7 ∨ j = 8 ∨ j = 9 ∨ j = 10 ∨ j = 11 ∨ j = 12 ∨ j = 13 ∨ j = 14 ∨ j = 15 ∨ j = 16 ∨ j = 17 ∨ j = 18 ∨ j = 19 ∨ j = 20 ∨ j = 21 ∨ j = 22 ∨ j = 23 ∨ j = 24 ∨ j = 25 ∨ j = 26 ∨ j = 27 ∨ j = 28 ∨ j = 29 ∨ j = 30 ∨ j = 31 ∨ j = 32 ∨ j = 33 ∨ j = 34 ∨ j = 35 ∨ j = 36 ∨ j = 37 ∨ j = 38 ∨ j = 39 ∨ j = 40 ∨ j = 41 ∨ j = 42 ∨ j = 43 ∨ j = 44 ∨ j = 45 ∨ j = 46 ∨ j = 47 ∨ j = 48 ∨ j = 49 ∨ j = 50 ∨ j = 51 by omega) with rfl | rfl | rfl | rfl | rfl | rfl | rfl | rfl | rfl | rfl | rfl | rfl | rfl | rfl | rfl | rfl | rfl | rfl | rfl | rfl | rfl | rfl | rfl | rfl | rfl | rfl | rfl | rfl | rfl | rfl | rfl | rfl | rfl | rfl | rfl | rfl | rfl | rfl | rfl | rfl | rfl | rfl | rfl | rfl | rfl | rfl | rfl | rfl | rfl | rfl | rfl | rfl <;> rfl) (Nat.le_of_ble_eq_true rfl) (Nat.le_of_ble_eq_true rfl) (by decide +kernel : decode code 8 = .ok (.new 10, 3)) (fun m0 H hP hD hS => ?_)
  refine W.widen (k := 50) (n := 3531) (Nat.le_of_ble_eq_true rfl) (Nat.le_of_ble_eq_true rfl) ?_
  refine lv_dup hx hb (by decide +kernel : decode code 11 = .ok (.dup, 1)) rfl ?_
  have hPc := hP.sub (ws' := [(m0, .inr (11, [.null, .null, .null, .null, .int 0, .null, .null, .int 0, .null, .null, .null, .null, .null, .int 0, .int 0, .int 0, .int 0, .int 0, .int 0, .int 0, .int 0, .int 0, .int 0, .int 0, .int 0, .int 0, .int 0, .int 0, .int 0, .null, .null, .null, .null, .null, .null, .null, .null, .null, .int 0, .int 0, .int 0, .null, .int 0, .null, .null, .null, .null, .null, .null, .null, .null, .int 0]))]) [49] rfl
  have hDc := hD.sub (ws' := [(m0, .inr (11, [.null, .null, .null, .null, .int 0, .null, .null, .int 0, .null, .null, .null, .null, .null, .int 0, .int 0, .int 0, .int 0, .int 0, .int 0, .int 0, .int 0, .int 0, .int 0, .int 0, .int 0, .int 0, .int 0, .int 0, .int 0, .null, .null, .null, .null, .null, .null, .null, .null, .null, .int 0, .int 0, .int 0, .null, .int 0, .null, .null, .null, .null, .null, .null, .null, .null, .int 0]))]) [49] (by decide) rfl
  have hFc := va_free (wc := [(m0, .inr (11, [.null, .null, .null, .null, .int 0, .null, .null, .int 0, .null, .null, .null, .null, .null, .int 0, .int 0, .int 0, .int 0, .int 0, .int 0, .int 0, .int 0, .int 0, .int 0, .int 0, .int 0, .int 0, .int 0, .int 0, .int 0, .null, .null, .null, .null, .null, .null, .null, .null, .null, .int 0, .int 0, .int 0, .null, .int 0, .null, .null, .null, .null, .null, .null, .null, .null, .int 0]))]) hD hS hA [49] rfl
  refine va_callv (va_runI (As := []) (rest := [.ref m0]) ⟨hx, hb, hml, hown, hts⟩ (knM l dC dI cA m0 H.size) (cwI 0 hts (am_GW kwcM) rfl rfl rfl (hts _ (am_m1 (i := 12) rfl rfl)) (hts _ (am_m4 (i := 100) rfl rfl)) (hts _ (am_m4 (i := 101) rfl rfl)) rfl (by decide +kernel) ⟨Nat.le_of_ble_eq_true rfl, Nat.le_of_ble_eq_true rfl⟩) ⟨fun a U g mk q => ⟨q.1, q.2.1, q.2.2.1, va_K.moved (u := U) (U := U.calling g mk a) (Vm.Alike.refl U.vm) q.2.2.2.1, am_N_vm (u := U) (U := U.calling g mk a) rfl q.2.2.2.2.1, q.2.2.2.2.2⟩, fun U hU hW => ⟨rfl, by rw [hU], by rw [hU]; exact hPc, va_K.moved hW.alike hK, am_N_warm hW hN, hDc.weaken (fun _ _ _ _ => trivial)⟩⟩ rfl rfl hl.1 rfl (lv_room (Nat.le_of_ble_eq_true rfl)) (by decide +kernel : decode code 12 = .ok (.invokespecial 12, 3)) ⟨Nat.le_of_ble_eq_true rfl, Nat.le_of_ble_eq_true rfl⟩) hS (fun q _ h => hFc q h) hFc (fun u t H1 locs ht hvm hw hB hz1 hk1 hS => ?_)
  obtain ⟨q1, q2, q3, q4, q5, q6, q7, q8, q9, q10, q11, q12, q13, q14, q15, q16, q17, q18, q19, q20, q21, q22, q23, q24, q25, q26, q27, q28, q29, hP1, hD1⟩ := hB
  rw [ht] at hP1
  obtain ⟨ad2, e2, hP2, hD2⟩ := cw30 cA m0 q1 q2 q3 q4 q5 q6 q7 q8 q9 q10 q11 q12 q13 q14 q15 q16 q17 q18 q19 q20 q21 q22 q23 q24 q25 q26 q27 q28 q29 hP1 hD1
  obtain ⟨hP, hD⟩ := va_join (wr := w49 ad1 cA) (w1 := w30 ad2 cA) hP hD [49] (List.range 49) rfl rfl (by decide) (by decide) hk1 hFc hP2 hD2
  rw [cw79 ad1 ad2 b cA xs] at hP hD
  generalize H1 = H at hP hS ⊢
  refine W.widen (k := 79) (n := 4767) (Nat.le_of_ble_eq_true rfl) (Nat.le_of_ble_eq_true rfl) ?_
  refine lv_astore_n (lv' := [(2, .ref m0), (1, .ref x0), (0, .ref b)]) hx hb (by decide +kernel : decode code 15 = .ok (.astore_n 2, 1)) rfl hl (by decide) rfl (fun ls hl => ?_)
  refine lv_iconst (v := 0) hx hb (by decide +kernel : decode code 16 = .ok (.iconst 0, 1)) (by decide) ?_
  refine lv_istore_n (lv' := [(3, .int 0), (2, .ref m0), (1, .ref x0), (0, .ref b)]) hx hb (by decide +kernel : decode code 17 = .ok (.istore_n 3, 1)) rfl hl (by decide) rfl (fun ls hl => ?_)
  obtain ⟨ad, had⟩ : ∃ ad : Nat → Nat, adj ad1 ad2 b = ad := ⟨_, rfl⟩
  have q0 : ad 0 = x0 := by rw [← had]; exact e1
  have q49 : ad 49 = m0 := by rw [← had]; exact e2
  have q79 : ad 79 = b := by rw [← had]; rfl
  rw [had] at hP hD
  have hge : ∀ k, k < 79 → s.heap.size ≤ ad k := fun k hk => by
    have h1 := hD.2 k _ (am_w_get hk)
    rw [hAe] at h1
    exact h1
  have hinj : am_inj ad := fun i j hi hj e => hD.1 i j _ _ (am_w_get hi) (am_w_get hj) e
  have hnA : ¬ am_A ad b := fun q => by
    obtain ⟨k, hk, e⟩ := q
    have h1 := hge k hk
    rw [← e] at h1
    exact absurd hbl (Nat.not_lt.mpr h1)
  have cx : am_Cx p s m #[Value.ref b] c "MilkHorseLaw" code 4 dC dI cA := ⟨hx, hb, hml, hown, hts, hK, hN⟩
  have hRt : am_HR p l e room_1 s m #[Value.ref b] below meth c 79 4767 (lw_Z below #[Value.ref b] s) code ad dC dI cA L xs (some .boolean) lw_K := by
    intro r D L' H locs pc rls hKr hRr hSr hcase
    have er : r = some (.int 1) := hKr
    subst er
    rcases hcase with ⟨hdec, _⟩ | ⟨_, h, _⟩ | ⟨_, ⟨o, h⟩, _⟩ | ⟨_, h, _⟩
    · refine va_forget (fun q hq => ?_) (W.widen (k := 600000) (n := 7302250) (Nat.le_of_ble_eq_true rfl) (Nat.le_of_ble_eq_true rfl) (lw_ret hx hb hr hlocks hdec))
      obtain ⟨k, hk, e⟩ := hSr.2.2 q hq
      rw [e]
      exact hge k hk
    · cases h
    · cases h
    · cases h
  have hv0 : ix (Dst xs) v0 := ⟨ib_fr ix_0.1 (fun k hk => by unfold Dst; rw [if_neg (by omega)]), ic_fr ix_0.2.1 (fun k _ _ => by unfold Dst; rw [if_neg (by omega)]), iw_fr ix_0.2.2 (fun k _ _ => by unfold Dst; rw [if_neg (by omega)])⟩
  have hm0 : im (Dst xs) v0 := by
    have h := im_0
    unfold im at h ⊢
    have ed : ∀ k, k ≠ 79 → Dst xs k = D0 k := fun k hk => by unfold Dst; rw [if_neg hk]
    rw [ed 49 (by decide), ed 50 (by decide), ed 51 (by decide), ed 55 (by decide), ed 56 (by decide), ed 57 (by decide), ed 58 (by decide), ed 71 (by decide), ed 72 (by decide), ed 74 (by decide), ed 75 (by decide), ed 76 (by decide), ed 77 (by decide)]
    exact h
  have loop := lw_loop L hL 600 0 v0 (Dst xs) L0 (by omega) (by omega) vok_0 hv0 hm0
  have snd := am_sound (lw := true) (cells := 79) (slots := 4767) (Q := lw_Z below #[Value.ref b] s) (R := room_1) (l := l) (e := e) (below := below) (meth := meth) (fl := flL) (ki := kiL) (kl := klL) (ret := some .boolean) (ad := ad) (n := L) (xs := xs) (cs := csL_law) (F := fnL_law) cx hinj flL_ok kiL_ok klL_ok (fun _ => ⟨by rw [q79]; exact hX, by rw [q79]; exact hbl, by rw [q79]; exact hnA⟩) (fun a ins b' dd h => clL_law l a ins b' dd h p e room_1 s m _ below meth c 79 4767 _ code 4 ad dC dI cA L xs (Nat.le_of_ble_eq_true rfl) (Nat.le_of_ble_eq_true rfl) (Nat.le_of_ble_eq_true rfl) (Nat.le_of_ble_eq_true rfl) hinj cx) hRt ckL_law loop
  refine va_forget (fun q hq => ?_) (snd ls H [] ⟨hl.1, hl.2.1, fun i v hi => ?_⟩ ⟨hP, fun j _ => rfl⟩ ⟨hS.1, fun q hq _ => hS.2.1 q hq (fun h => ?_), fun q hq => absurd hq List.not_mem_nil⟩)
  · have h1 := hS.2.2 q hq
    rw [hAe] at h1
    exact h1
  · match i, hi with
    | 0, hi => cases hi; show ls[0]? = some (.val (.ref (ad 79))); rw [q79]; exact lv_at hl 3 rfl
    | 1, hi => cases hi; show ls[1]? = some (.val (.ref (ad 0))); rw [q0]; exact lv_at hl 2 rfl
    | 2, hi => cases hi; show ls[2]? = some (.val (.ref (ad 49))); rw [q49]; exact lv_at hl 1 rfl
    | 3, hi => cases hi; exact lv_at hl 0 rfl
    | i + 4, hi => cases hi
  · rw [hAe] at h
    exact absurd hq (Nat.not_lt.mpr h)
