/-! the worlds that the constructors leave, and the abstract machine's -/
theorem cn_arr {D : va_G} {cl : List vw_C} {A : Nat → Prop} {ws : va_W} {H : Heap} {i a n : Nat} {c : ClassId} {f g : Nat → Option Nat} (hP : va_P D cl ws H) (hD : va_D A ws) (hi : ws[i]? = some (a, .inl (c, n, .inr (.inr (.inr (.inr f)))))) (h : ∀ j, j < n → f j = g j) : va_P D cl (ws.set i (a, .inl (c, n, .inr (.inr (.inr (.inr g)))))) H ∧ va_D A (ws.set i (a, .inl (c, n, .inr (.inr (.inr (.inr g)))))) := by
  refine ⟨hP.set hD hi ?_ (fun _ _ => rfl), hD.set hi⟩
  have h1 := hP i _ hi
  have h2 : H[a]? = some (vp_cell c (n, .inr (.inr (.inr (.inr f))))) := h1
  show H[a]? = some (vp_cell c (n, .inr (.inr (.inr (.inr g)))))
  rw [h2, vp_cell_q, vp_cell_q]
  congr 1
  unfold arrV
  congr 2
  funext j
  show va_rf (f j.val) = va_rf (g j.val)
  rw [h j.val j.isLt]
def adl (l : List Nat) (b k : Nat) : Nat := l.getD (k - b) 0
def w49 (ad : Nat → Nat) (cA : Nat → ClassId) : va_W := (List.range 49).map (fun k => (ad k, am_e ad cA (D0 k) L0 k))
def w30 (ad : Nat → Nat) (cA : Nat → ClassId) : va_W := (List.range 30).map (fun k => (ad (49 + k), am_e ad cA (D0 (49 + k)) L0 (49 + k)))
set_option maxHeartbeats 4000000 in
set_option maxRecDepth 100000 in
theorem cw49 (cA : Nat → ClassId) (h0 q1 q2 q3 q4 q5 q6 q7 q8 q9 q10 q11 q12 q13 q14 q15 q16 q17 q18 q19 q20 q21 q22 q23 q24 q25 q26 q27 q28 q29 q30 q31 q32 q33 q34 q35 q36 q37 q38 q39 q40 q41 q42 q43 q44 q45 q46 q47 q48 : Nat) {D : va_G} {A : Nat → Prop} {H : Heap} (hP : va_P D am_cl [(h0, .inr (10, [.ref q1, .ref q3, .ref q5, .ref q7, .ref q11, .ref q14, .ref q18, .ref q22, .ref q27, .ref q32, .ref q33, .ref q34, .ref q35, .ref q36, .ref q39, .ref q40, .int 0])), (q1, .inr (8, [.ref q2, .int 12, .int 48, .int 53, .int 0])), (q2, .inl (cA 0, 24, .inl (fun _ => 0))), (q3, .inr (8, [.ref q4, .int 12, .int 48, .int 53, .int 0])), (q4, .inl (cA 0, 24, .inl (fun _ => 0))), (q5, .inr (8, [.ref q6, .int 24, .int 97, .int 108, .int 0])), (q6, .inl (cA 0, 24, .inl (fun _ => 0))), (q7, .inr (3, [.ref q8, .ref q9, .ref q10, .int 0])), (q8, .inl (cA 0, 8, .inl (fun _ => 0))), (q9, .inl (cA 0, 8, .inl (fun _ => 0))), (q10, .inl (cA 0, 8, .inl (fun _ => 0))), (q11, .inr (6, [.ref q12, .ref q13, .int 0])), (q12, .inl (cA 0, 8, .inl (fun _ => 0))), (q13, .inl (cA 0, 8, .inl (fun _ => 0))), (q14, .inr (4, [.ref q15, .ref q16, .ref q17, .int 0, .int 1, .int 4, .int 40, .int 0])), (q15, .inl (cA 0, 12, .inl (fun _ => 0))), (q16, .inl (cA 0, 12, .inl (fun _ => 0))), (q17, .inl (cA 0, 24, .inl (fun _ => 0))), (q18, .inr (4, [.ref q19, .ref q20, .ref q21, .int 0, .int 1, .int 4, .int 40, .int 0])), (q19, .inl (cA 0, 12, .inl (fun _ => 0))), (q20, .inl (cA 0, 12, .inl (fun _ => 0))), (q21, .inl (cA 0, 24, .inl (fun _ => 0))), (q22, .inr (9, [.ref q23, .ref q24, .ref q25, .ref q26, .int 0, .int 0, .int 0, .int 0, .int 0, .int 0, .int 0, .int 0, .int 0, .int 0, .int 0, .int 0, .int 0])), (q23, .inl (cA 0, 12, .inl (fun _ => 0))), (q24, .inl (cA 0, 12, .inl (fun _ => 0))), (q25, .inl (cA 0, 12, .inl (fun _ => 0))), (q26, .inl (cA 0, 48, .inl (fun _ => 0))), (q27, .inr (2, [.ref q28, .ref q29, .ref q30, .ref q31, .int (-1), .int 0, .int 0])), (q28, .inl (cA 0, 240, .inl (fun _ => 0))), (q29, .inl (cA 0, 1728, .inl (fun _ => 0))), (q30, .inl (cA 0, 12, .inl (fun _ => 0))), (q31, .inl (cA 0, 5, .inl (fun _ => 0))), (q32, .inr (1, [.int (-1), .int (-1), .int (-1), .int (-1), .int 0])), (q33, .inr (1, [.int (-1), .int (-1), .int (-1), .int (-1), .int 0])), (q34, .inr (1, [.int (-1), .int (-1), .int (-1), .int (-1), .int 0])), (q35, .inr (7, [.int (-1), .int (-1), .int (-1), .int 0])), (q36, .inr (0, [.ref q37, .ref q38, .int 0])), (q37, .inl (cA 0, 256, .inl (fun _ => 0))), (q38, .inl (cA 2, 9, .inr (.inl (fun _ => 0)))), (q39, .inl (cA 0, 576, .inl (fun _ => 0))), (q40, .inl (cA 3, 4, .inr (.inr (.inr (.inr (va_up (va_up (va_up (va_up (fun _ => none) 0 (some q41)) 1 (some q43)) 2 (some q45)) 3 (some q47))))))), (q41, .inr (5, [.ref q42, .int 0, .int 0, .int 1])), (q42, .inl (cA 0, 60, .inl (fun _ => 0))), (q43, .inr (5, [.ref q44, .int 0, .int 0, .int 1])), (q44, .inl (cA 0, 60, .inl (fun _ => 0))), (q45, .inr (5, [.ref q46, .int 0, .int 0, .int 1])), (q46, .inl (cA 0, 60, .inl (fun _ => 0))), (q47, .inr (5, [.ref q48, .int 0, .int 0, .int 1])), (q48, .inl (cA 0, 60, .inl (fun _ => 0)))] H) (hD : va_D A [(h0, .inr (10, [.ref q1, .ref q3, .ref q5, .ref q7, .ref q11, .ref q14, .ref q18, .ref q22, .ref q27, .ref q32, .ref q33, .ref q34, .ref q35, .ref q36, .ref q39, .ref q40, .int 0])), (q1, .inr (8, [.ref q2, .int 12, .int 48, .int 53, .int 0])), (q2, .inl (cA 0, 24, .inl (fun _ => 0))), (q3, .inr (8, [.ref q4, .int 12, .int 48, .int 53, .int 0])), (q4, .inl (cA 0, 24, .inl (fun _ => 0))), (q5, .inr (8, [.ref q6, .int 24, .int 97, .int 108, .int 0])), (q6, .inl (cA 0, 24, .inl (fun _ => 0))), (q7, .inr (3, [.ref q8, .ref q9, .ref q10, .int 0])), (q8, .inl (cA 0, 8, .inl (fun _ => 0))), (q9, .inl (cA 0, 8, .inl (fun _ => 0))), (q10, .inl (cA 0, 8, .inl (fun _ => 0))), (q11, .inr (6, [.ref q12, .ref q13, .int 0])), (q12, .inl (cA 0, 8, .inl (fun _ => 0))), (q13, .inl (cA 0, 8, .inl (fun _ => 0))), (q14, .inr (4, [.ref q15, .ref q16, .ref q17, .int 0, .int 1, .int 4, .int 40, .int 0])), (q15, .inl (cA 0, 12, .inl (fun _ => 0))), (q16, .inl (cA 0, 12, .inl (fun _ => 0))), (q17, .inl (cA 0, 24, .inl (fun _ => 0))), (q18, .inr (4, [.ref q19, .ref q20, .ref q21, .int 0, .int 1, .int 4, .int 40, .int 0])), (q19, .inl (cA 0, 12, .inl (fun _ => 0))), (q20, .inl (cA 0, 12, .inl (fun _ => 0))), (q21, .inl (cA 0, 24, .inl (fun _ => 0))), (q22, .inr (9, [.ref q23, .ref q24, .ref q25, .ref q26, .int 0, .int 0, .int 0, .int 0, .int 0, .int 0, .int 0, .int 0, .int 0, .int 0, .int 0, .int 0, .int 0])), (q23, .inl (cA 0, 12, .inl (fun _ => 0))), (q24, .inl (cA 0, 12, .inl (fun _ => 0))), (q25, .inl (cA 0, 12, .inl (fun _ => 0))), (q26, .inl (cA 0, 48, .inl (fun _ => 0))), (q27, .inr (2, [.ref q28, .ref q29, .ref q30, .ref q31, .int (-1), .int 0, .int 0])), (q28, .inl (cA 0, 240, .inl (fun _ => 0))), (q29, .inl (cA 0, 1728, .inl (fun _ => 0))), (q30, .inl (cA 0, 12, .inl (fun _ => 0))), (q31, .inl (cA 0, 5, .inl (fun _ => 0))), (q32, .inr (1, [.int (-1), .int (-1), .int (-1), .int (-1), .int 0])), (q33, .inr (1, [.int (-1), .int (-1), .int (-1), .int (-1), .int 0])), (q34, .inr (1, [.int (-1), .int (-1), .int (-1), .int (-1), .int 0])), (q35, .inr (7, [.int (-1), .int (-1), .int (-1), .int 0])), (q36, .inr (0, [.ref q37, .ref q38, .int 0])), (q37, .inl (cA 0, 256, .inl (fun _ => 0))), (q38, .inl (cA 2, 9, .inr (.inl (fun _ => 0)))), (q39, .inl (cA 0, 576, .inl (fun _ => 0))), (q40, .inl (cA 3, 4, .inr (.inr (.inr (.inr (va_up (va_up (va_up (va_up (fun _ => none) 0 (some q41)) 1 (some q43)) 2 (some q45)) 3 (some q47))))))), (q41, .inr (5, [.ref q42, .int 0, .int 0, .int 1])), (q42, .inl (cA 0, 60, .inl (fun _ => 0))), (q43, .inr (5, [.ref q44, .int 0, .int 0, .int 1])), (q44, .inl (cA 0, 60, .inl (fun _ => 0))), (q45, .inr (5, [.ref q46, .int 0, .int 0, .int 1])), (q46, .inl (cA 0, 60, .inl (fun _ => 0))), (q47, .inr (5, [.ref q48, .int 0, .int 0, .int 1])), (q48, .inl (cA 0, 60, .inl (fun _ => 0)))]) : ∃ ad : Nat → Nat, ad 0 = h0 ∧ va_P D am_cl (w49 ad cA) H ∧ va_D A (w49 ad cA) := by
  refine ⟨adl [h0, q1, q2, q3, q4, q5, q6, q7, q8, q9, q10, q11, q12, q13, q14, q15, q16, q17, q18, q19, q20, q21, q22, q23, q24, q25, q26, q27, q28, q29, q30, q31, q32, q33, q34, q35, q36, q37, q38, q39, q40, q41, q42, q43, q44, q45, q46, q47, q48] 0, rfl, ?_⟩
  have r := cn_arr (i := 40) (g := fun i => some (adl [h0, q1, q2, q3, q4, q5, q6, q7, q8, q9, q10, q11, q12, q13, q14, q15, q16, q17, q18, q19, q20, q21, q22, q23, q24, q25, q26, q27, q28, q29, q30, q31, q32, q33, q34, q35, q36, q37, q38, q39, q40, q41, q42, q43, q44, q45, q46, q47, q48] 0 (am_rho 40 i))) hP hD rfl (fun j hj => by rcases (show j = 0 ∨ j = 1 ∨ j = 2 ∨ j = 3 by omega) with rfl | rfl | rfl | rfl <;> rfl)
  exact r
set_option maxHeartbeats 4000000 in
set_option maxRecDepth 100000 in
theorem cw30 (cA : Nat → ClassId) (h0 q1 q2 q3 q4 q5 q6 q7 q8 q9 q10 q11 q12 q13 q14 q15 q16 q17 q18 q19 q20 q21 q22 q23 q24 q25 q26 q27 q28 q29 : Nat) {D : va_G} {A : Nat → Prop} {H : Heap} (hP : va_P D am_cl [(h0, .inr (11, [.ref q1, .ref q2, .ref q3, .ref q4, .int 0, .ref q5, .ref q6, .int 0, .ref q7, .ref q8, .ref q9, .ref q10, .ref q11, .int 0, .int 0, .int 0, .int 0, .int 0, .int 0, .int 0, .int 0, .int 0, .int 0, .int 0, .int 0, .int 0, .int 0, .int 0, .int 0, .ref q12, .ref q13, .ref q14, .ref q15, .ref q16, .ref q17, .ref q18, .ref q19, .ref q20, .int 0, .int 0, .int 0, .ref q21, .int 0, .ref q22, .ref q23, .ref q24, .ref q25, .ref q26, .ref q27, .ref q28, .ref q29, .int 0])), (q1, .inl (cA 0, 3, .inl (fun _ => 0))), (q2, .inl (cA 0, 72, .inl (fun _ => 0))), (q3, .inl (cA 0, 12, .inl (fun _ => 0))), (q4, .inl (cA 0, 12, .inl (fun _ => 0))), (q5, .inl (cA 0, 24, .inl (fun _ => 0))), (q6, .inl (cA 0, 3, .inl (upd (upd (upd (fun _ => 0) 0 1) 1 4) 2 40))), (q7, .inl (cA 0, 8, .inl (fun _ => 0))), (q8, .inl (cA 0, 8, .inl (fun _ => 0))), (q9, .inl (cA 0, 8, .inl (fun _ => 0))), (q10, .inl (cA 0, 12, .inl (fun _ => 0))), (q11, .inl (cA 0, 24, .inl (fun _ => 0))), (q12, .inl (cA 0, 12, .inl (fun _ => 0))), (q13, .inl (cA 0, 12, .inl (fun _ => 0))), (q14, .inl (cA 0, 12, .inl (fun _ => 0))), (q15, .inl (cA 0, 12, .inl (fun _ => 0))), (q16, .inl (cA 0, 48, .inl (fun _ => 0))), (q17, .inl (cA 0, 48, .inl (fun _ => 0))), (q18, .inl (cA 0, 48, .inl (fun _ => 0))), (q19, .inl (cA 0, 48, .inl (fun _ => 0))), (q20, .inl (cA 0, 48, .inl (fun _ => 0))), (q21, .inl (cA 0, 2, .inl (fun _ => 0))), (q22, .inl (cA 0, 8, .inl (fun _ => 0))), (q23, .inl (cA 0, 8, .inl (fun _ => 0))), (q24, .inl (cA 0, 432, .inl (fun _ => 0))), (q25, .inl (cA 1, 4, .inl (fun _ => 0))), (q26, .inl (cA 0, 4, .inl (fun _ => 0))), (q27, .inl (cA 0, 4, .inl (fun _ => 0))), (q28, .inl (cA 0, 240, .inl (fun _ => 0))), (q29, .inl (cA 0, 60, .inl (fun _ => 0)))] H) (hD : va_D A [(h0, .inr (11, [.ref q1, .ref q2, .ref q3, .ref q4, .int 0, .ref q5, .ref q6, .int 0, .ref q7, .ref q8, .ref q9, .ref q10, .ref q11, .int 0, .int 0, .int 0, .int 0, .int 0, .int 0, .int 0, .int 0, .int 0, .int 0, .int 0, .int 0, .int 0, .int 0, .int 0, .int 0, .ref q12, .ref q13, .ref q14, .ref q15, .ref q16, .ref q17, .ref q18, .ref q19, .ref q20, .int 0, .int 0, .int 0, .ref q21, .int 0, .ref q22, .ref q23, .ref q24, .ref q25, .ref q26, .ref q27, .ref q28, .ref q29, .int 0])), (q1, .inl (cA 0, 3, .inl (fun _ => 0))), (q2, .inl (cA 0, 72, .inl (fun _ => 0))), (q3, .inl (cA 0, 12, .inl (fun _ => 0))), (q4, .inl (cA 0, 12, .inl (fun _ => 0))), (q5, .inl (cA 0, 24, .inl (fun _ => 0))), (q6, .inl (cA 0, 3, .inl (upd (upd (upd (fun _ => 0) 0 1) 1 4) 2 40))), (q7, .inl (cA 0, 8, .inl (fun _ => 0))), (q8, .inl (cA 0, 8, .inl (fun _ => 0))), (q9, .inl (cA 0, 8, .inl (fun _ => 0))), (q10, .inl (cA 0, 12, .inl (fun _ => 0))), (q11, .inl (cA 0, 24, .inl (fun _ => 0))), (q12, .inl (cA 0, 12, .inl (fun _ => 0))), (q13, .inl (cA 0, 12, .inl (fun _ => 0))), (q14, .inl (cA 0, 12, .inl (fun _ => 0))), (q15, .inl (cA 0, 12, .inl (fun _ => 0))), (q16, .inl (cA 0, 48, .inl (fun _ => 0))), (q17, .inl (cA 0, 48, .inl (fun _ => 0))), (q18, .inl (cA 0, 48, .inl (fun _ => 0))), (q19, .inl (cA 0, 48, .inl (fun _ => 0))), (q20, .inl (cA 0, 48, .inl (fun _ => 0))), (q21, .inl (cA 0, 2, .inl (fun _ => 0))), (q22, .inl (cA 0, 8, .inl (fun _ => 0))), (q23, .inl (cA 0, 8, .inl (fun _ => 0))), (q24, .inl (cA 0, 432, .inl (fun _ => 0))), (q25, .inl (cA 1, 4, .inl (fun _ => 0))), (q26, .inl (cA 0, 4, .inl (fun _ => 0))), (q27, .inl (cA 0, 4, .inl (fun _ => 0))), (q28, .inl (cA 0, 240, .inl (fun _ => 0))), (q29, .inl (cA 0, 60, .inl (fun _ => 0)))]) : ∃ ad : Nat → Nat, ad 49 = h0 ∧ va_P D am_cl (w30 ad cA) H ∧ va_D A (w30 ad cA) := by
  refine ⟨adl [h0, q1, q2, q3, q4, q5, q6, q7, q8, q9, q10, q11, q12, q13, q14, q15, q16, q17, q18, q19, q20, q21, q22, q23, q24, q25, q26, q27, q28, q29] 49, rfl, ?_⟩
  exact ⟨hP, hD⟩
theorem rho_49 {k : Nat} (hk : k < 49) (j : Nat) : am_rho k j < 49 := by
  have key : ∀ k, k < 49 → ∀ x ∈ am_rhos.getD k [], x < 49 := by decide +kernel
  unfold am_rho
  rw [List.getD_eq_getElem?_getD]
  cases h : (am_rhos.getD k [])[j]? with
  | none => exact (by decide : (0 : Nat) < 49)
  | some x => exact key k hk x (List.mem_of_getElem? h)
theorem am_e_ad {ad ad' : Nat → Nat} {cA : Nat → ClassId} {f : Nat → Int32} {L : am_L} {k : Nat} (h : ∀ j, j < am_nf (am_tag k) → am_isr (am_tag k) j = true → ad (am_rho k j) = ad' (am_rho k j)) (h3 : am_tag k = 103 → ∀ j, ad (am_rho k j) = ad' (am_rho k j)) : am_e ad cA f L k = am_e ad' cA f L k := by
  unfold am_e
  split
  · rfl
  · split
    · rfl
    · split
      · rfl
      · split
        · rename_i q
          have e : (fun i => some (ad (am_rho k i))) = (fun i => some (ad' (am_rho k i))) := funext (fun i => by rw [h3 q i])
          rw [e]
        · congr 2
          unfold am_fs
          refine List.map_congr_left (fun j hj => ?_)
          have hj' := List.mem_range.mp hj
          cases hr : am_isr (am_tag k) j with
          | true => simp only [cond_true]; rw [h j hj' hr]
          | false => rfl
def adj (a1 a2 : Nat → Nat) (b : Nat) : Nat → Nat := fun k => if k < 49 then a1 k else if k < 79 then a2 k else b
def Dst (xs : Nat → Int32) : am_D := fun k => if k = 79 then xs else D0 k
theorem cw79 (a1 a2 : Nat → Nat) (b : Nat) (cA : Nat → ClassId) (xs : Nat → Int32) : w49 a1 cA ++ w30 a2 cA = am_w (adj a1 a2 b) cA (Dst xs) L0 := by
  have t49' : ∀ k, k < 79 → 49 < k → am_tag k ≠ 103 ∧ am_nf (am_tag k) = 0 := by decide +kernel
  have t49 : ∀ k, 49 < k → k < 79 → am_tag k ≠ 103 ∧ am_nf (am_tag k) = 0 := fun k h1 h2 => t49' k h2 h1
  have r49 : ∀ j, j < 52 → am_isr 11 j = true → 49 ≤ am_rho 49 j ∧ am_rho 49 j < 79 := by decide +kernel
  apply List.ext_getElem?
  intro i
  by_cases h1 : i < 49
  · rw [am_w_get (by omega), List.getElem?_append_left (by simp [w49]; exact h1)]
    have e1 : (w49 a1 cA)[i]? = some (a1 i, am_e a1 cA (D0 i) L0 i) := by simp [w49, h1]
    have e2 : adj a1 a2 b i = a1 i := by unfold adj; rw [if_pos h1]
    have e3 : Dst xs i = D0 i := by unfold Dst; rw [if_neg (by omega)]
    have ea : ∀ j, a1 (am_rho i j) = adj a1 a2 b (am_rho i j) := fun j => by unfold adj; rw [if_pos (rho_49 h1 j)]
    rw [e1, e2, e3, am_e_ad (ad := a1) (ad' := adj a1 a2 b) (fun j _ _ => ea j) (fun _ j => ea j)]
  · by_cases h2 : i < 79
    · rw [am_w_get h2, List.getElem?_append_right (by simp [w49]; omega)]
      have el : (w49 a1 cA).length = 49 := by simp [w49]
      rw [el]
      have e1 : (w30 a2 cA)[i - 49]? = some (a2 i, am_e a2 cA (D0 i) L0 i) := by
        have hq : i - 49 < 30 := by omega
        have e : 49 + (i - 49) = i := by omega
        simp [w30, hq, e]
      have e2 : adj a1 a2 b i = a2 i := by unfold adj; rw [if_neg h1, if_pos h2]
      have e3 : Dst xs i = D0 i := by unfold Dst; rw [if_neg (by omega)]
      rw [e1, e2, e3]
      congr 2
      refine am_e_ad (fun j hj hr => ?_) (fun q => ?_)
      · by_cases e : i = 49
        · subst e
          have := r49 j hj hr
          unfold adj
          rw [if_neg (by omega), if_pos (by omega)]
        · have := (t49 i (by omega) h2).2
          omega
      · by_cases e : i = 49
        · subst e
          exact absurd q (by decide +kernel)
        · exact absurd q (t49 i (by omega) h2).1
    · rw [List.getElem?_eq_none (by simp [w49, w30]; omega), List.getElem?_eq_none (by simp [am_w]; omega)]
