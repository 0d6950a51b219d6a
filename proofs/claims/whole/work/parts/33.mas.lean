def fnM_asTold : Nat → am_Sp := fun a => match a with
  | 0 => spM_reads
  | _ => am_no
theorem mfM_asTold : ∀ a, am_mono (fnM_asTold a) := fun a => match a with
  | 0 => moM_reads
  | _ + 1 => am_no_mono
/-- what the model does ahead of a question -/
def fa (D D' : am_D) : Prop := (∀ k, k ≠ 49 → (k < 52 ∨ 54 < k) → k ≠ 59 → k ≠ 60 → D' k = D k) ∧ ∀ j, j ≠ 4 → j ≠ 13 → j ≠ 14 → j ≠ 15 → D' 49 j = D 49 j
theorem fq_fa {D D' : am_D} (h : fa D D') : fq D D' := ⟨fun k hk => h.1 k (by omega) (by omega) (by omega) (by omega), h.2 7 (by omega) (by omega) (by omega) (by omega), h.2 42 (by omega) (by omega) (by omega) (by omega), h.2 51 (by omega) (by omega) (by omega) (by omega)⟩
def spM_asTold : am_Sp := fun as D L K => match as with
  | [.ref 49] => ∃ v : vs_T, vok v ∧ im D v ∧ ∀ D', fa D D' → rd D' v → pm D' (vpl v) → D' 49 15 = 0 → (∀ i, i < 24 → D' 60 i = D' 54 i) → K none D' L
  | _ => False
theorem moM_asTold : am_mono spM_asTold := by
  intro as D L K K' hK h
  unfold spM_asTold at h ⊢
  split at h
  · obtain ⟨v, h1, h2, h3⟩ := h
    exact ⟨v, h1, h2, fun D' q1 q2 q3 q4 q5 => hK _ _ _ (h3 D' q1 q2 q3 q4 q5)⟩
  · exact h
theorem wpM_asTold : ∀ (as : List Value) (D : am_D) (L : am_L) (K : am_K), spM_asTold as D L K → am_fit 2 as = true ∧ am_Wp false 0 cdM_asTold fnM_asTold K 0 (am_lo 2 as) [] D L := by
  intro as D L K h
  unfold spM_asTold at h
  split at h
  · obtain ⟨v, hv, hi, hK⟩ := h
    have i0 : vp_in (0 : Int32) 3 := by rw [← nI_0]; exact vp_in_nI (by decide) (by decide)
    have i1 : vp_in (1 : Int32) 3 := by rw [← nc1]; exact vp_in_nI (by decide) (by decide)
    have cl1 : (1 : Int32).toNatClampNeg = 1 := by decide +kernel
    obtain ⟨n3, x3, y3⟩ := hv.2.2.1
    obtain ⟨n4, x4, x4', y4⟩ := hv.2.2.2.1
    obtain ⟨n5, x5, y5⟩ := hv.2.2.2.2.1
    have second : ∀ (m i : Nat) (D1 D' : am_D), i + m = 24 → fs D D1 → rd D1 v → (∀ k, k ≠ 59 → k ≠ 60 → D' k = D1 k) → (∀ d, d < 12 → D' 59 d = nI (vpl v 1 d)) → (∀ j, j < i → D' 60 j = D1 54 j) → am_Wp false 0 cdM_asTold fnM_asTold K 32 [some (.ref 49), some (.int (nI i))] [] D' L := by
      intro m
      induction m with
      | zero =>
        intro i D1 D' hi' f1 r1 g1 g2 g3
        have z49 : D' 49 = D1 49 := g1 49 (by decide) (by decide)
        have z55 : D' 55 = D 55 := (g1 55 (by decide) (by decide)).trans (f1.1 55 (by decide) (by omega))
        have h0 : D' 55 0 = nI (vpl v 0 1) := by rw [z55, hi.2.2.1 0 (by decide)]; exact vn_eq ⟨n3, by omega, y3⟩
        have h1' : D' 55 1 = nI (vpl v 0 2) := by rw [z55, hi.2.2.1 1 (by decide)]; exact vn_eq ⟨n4, by omega, y4⟩
        have h2' : D' 55 2 = nI (vpl v 0 3) := by rw [z55, hi.2.2.1 2 (by decide)]; exact vn_eq ⟨n5, by omega, y5⟩
        refine am_Wp_bl mfM_asTold [32] 60 _ _ _ _ _ ?_
        (repeat ((conv => whnf); (first | refine zo0 ?_ | refine zo1 ?_ | refine br_z ?_ | refine br_o ?_ | refine br_zn ?_ | refine br_on ?_ | refine nz2 ?_ | refine nz6 ?_ | refine nz32 ?_ | refine And.intro (by assumption) ?_))); (conv => whnf)
        refine ⟨fun h1 => ?_, fun h1 => absurd (nI_le (a := 24) (by omega) (by omega)) h1⟩
        (repeat ((conv => whnf); (first | refine zo0 ?_ | refine zo1 ?_ | refine br_z ?_ | refine br_o ?_ | refine br_zn ?_ | refine br_on ?_ | refine nz2 ?_ | refine nz6 ?_ | refine nz32 ?_ | refine And.intro (by assumption) ?_))); (conv => whnf)
        have u49 : ∀ (k : Nat), k ≠ 49 → ∀ (D : am_D) (j : Nat) (x : Int32), am_up D 49 j x k = D k := fun k hk D j x => am_up_ne hk
        refine hK _ ⟨fun k q1 q2 q3 q4 => ?_, fun j q1 q2 q3 q4 => ?_⟩ ?_ ?_ ?_ (fun j hj => ?_)
        · rw [u49 k q1, u49 k q1, u49 k q1, g1 k q3 q4]; exact f1.1 k q1 q2
        · simp only [am_up_eq, upd, if_neg q2, if_neg q3, if_neg q4]
          rw [z49]; exact f1.2 j q1
        · unfold rd at r1 ⊢
          rw [u49 52 (by decide), u49 52 (by decide), u49 52 (by decide), u49 53 (by decide), u49 53 (by decide), u49 53 (by decide), u49 54 (by decide), u49 54 (by decide), u49 54 (by decide), g1 52 (by decide) (by decide), g1 53 (by decide) (by decide), g1 54 (by decide) (by decide)]
          refine ⟨r1.1, ?_, r1.2.2⟩
          simp only [am_up_eq, upd]
          rw [z49]
          exact r1.2.1
        · refine ⟨?_, ?_, ?_, ?_, fun d hd => ⟨?_, ?_⟩, fun j hj => ?_⟩
          · simp [am_up, upd, z49, r1.2.1]
          · simp [am_up, upd, cl0, h0]
          · simp [am_up, upd, cl1, h1']
          · rw [u49 55 (by decide), u49 55 (by decide), u49 55 (by decide)]; exact h2'
          · rw [u49 59 (by decide), u49 59 (by decide), u49 59 (by decide)]; exact g2 d hd
          · rw [u49 53 (by decide), u49 53 (by decide), u49 53 (by decide), g1 53 (by decide) (by decide)]; exact (r1.1 d hd).2
          · have hl : vpl v 0 0 ≤ 24 := (vpl_ok hv).1
            rw [u49 60 (by decide), u49 60 (by decide), u49 60 (by decide), g3 j (by omega), r1.2.2 j (by omega), if_pos hj]
        · simp [am_up, upd]
        · rw [u49 60 (by decide), u49 60 (by decide), u49 60 (by decide), u49 54 (by decide), u49 54 (by decide), u49 54 (by decide), g3 j (by omega), g1 54 (by decide) (by decide)]
      | succ m ih =>
        intro i D1 D' hi' f1 r1 g1 g2 g3
        have ec : (nI i).toNatClampNeg = i := nI_clamp (by omega)
        have hin : vp_in (nI i) 24 := vp_in_nI (by omega) (by decide)
        refine am_Wp_bl mfM_asTold [32] 60 _ _ _ _ _ ?_
        (repeat ((conv => whnf); (first | refine zo0 ?_ | refine zo1 ?_ | refine br_z ?_ | refine br_o ?_ | refine br_zn ?_ | refine br_on ?_ | refine nz2 ?_ | refine nz6 ?_ | refine nz32 ?_ | refine And.intro (by assumption) ?_))); (conv => whnf)
        refine ⟨fun h1 => absurd h1 (nI_ge (b := 24) (by omega) (by omega)), fun h1 => ?_⟩
        (repeat ((conv => whnf); (first | refine zo0 ?_ | refine zo1 ?_ | refine br_z ?_ | refine br_o ?_ | refine br_zn ?_ | refine br_on ?_ | refine nz2 ?_ | refine nz6 ?_ | refine nz32 ?_ | refine And.intro (by assumption) ?_))); (conv => whnf)
        rw [ec, nI_1]
        refine ih (i + 1) D1 _ (by omega) f1 r1 (fun k q1 q2 => (am_up_ne q2).trans (g1 k q1 q2)) (fun d hd => by rw [am_up_ne (by decide)]; exact g2 d hd) (fun j hj => ?_)
        rw [am_up_eq]
        unfold upd
        by_cases ej : j = i
        · rw [if_pos ej, ej, g1 54 (by decide) (by decide)]
        · rw [if_neg ej]; exact g3 j (by omega)
    have first : ∀ (m i : Nat) (D1 D' : am_D), i + m = 12 → fs D D1 → rd D1 v → (∀ k, k ≠ 59 → D' k = D1 k) → (∀ d, d < i → D' 59 d = nI (vpl v 1 d)) → am_Wp false 0 cdM_asTold fnM_asTold K 6 [some (.ref 49), some (.int (nI i))] [] D' L := by
      intro m
      induction m with
      | zero =>
        intro i D1 D' hi' f1 r1 g1 g2
        refine am_Wp_bl mfM_asTold [32] 60 _ _ _ _ _ ?_
        (repeat ((conv => whnf); (first | refine zo0 ?_ | refine zo1 ?_ | refine br_z ?_ | refine br_o ?_ | refine br_zn ?_ | refine br_on ?_ | refine nz2 ?_ | refine nz6 ?_ | refine nz32 ?_ | refine And.intro (by assumption) ?_))); (conv => whnf)
        refine ⟨fun h1 => ?_, fun h1 => absurd (nI_le (a := 12) (by omega) (by omega)) h1⟩
        (repeat ((conv => whnf); (first | refine zo0 ?_ | refine zo1 ?_ | refine br_z ?_ | refine br_o ?_ | refine br_zn ?_ | refine br_on ?_ | refine nz2 ?_ | refine nz6 ?_ | refine nz32 ?_ | refine And.intro (by assumption) ?_))); (conv => whnf)
        exact second 24 0 D1 D' (by omega) f1 r1 (fun k q _ => g1 k q) (fun d hd => g2 d (by omega)) (fun j hj => absurd hj (by omega))
      | succ m ih =>
        intro i D1 D' hi' f1 r1 g1 g2
        have ec : (nI i).toNatClampNeg = i := nI_clamp (by omega)
        have hin : vp_in (nI i) 12 := vp_in_nI (by omega) (by decide)
        refine am_Wp_bl mfM_asTold [6] 60 _ _ _ _ _ ?_
        (repeat ((conv => whnf); (first | refine zo0 ?_ | refine zo1 ?_ | refine br_z ?_ | refine br_o ?_ | refine br_zn ?_ | refine br_on ?_ | refine nz2 ?_ | refine nz6 ?_ | refine nz32 ?_ | refine And.intro (by assumption) ?_))); (conv => whnf)
        refine ⟨fun h1 => absurd h1 (nI_ge (b := 12) (by omega) (by omega)), fun h1 => ?_⟩
        (repeat ((conv => whnf); (first | refine zo0 ?_ | refine zo1 ?_ | refine br_z ?_ | refine br_o ?_ | refine br_zn ?_ | refine br_on ?_ | refine nz2 ?_ | refine nz6 ?_ | refine nz32 ?_ | refine And.intro (by assumption) ?_))); (conv => whnf)
        rw [ec, nI_1]
        refine ih (i + 1) D1 _ (by omega) f1 r1 (fun k q => (am_up_ne q).trans (g1 k q)) (fun d hd => ?_)
        rw [am_up_eq]
        unfold upd
        by_cases ed : d = i
        · rw [if_pos ed, ed, g1 52 (by decide)]; exact (r1.1 i (by omega)).1
        · rw [if_neg ed]; exact g2 d (by omega)
    refine ⟨rfl, am_Wp_bl mfM_asTold [6] 60 _ _ _ _ _ ?_⟩
    (repeat ((conv => whnf); (first | refine zo0 ?_ | refine zo1 ?_ | refine br_z ?_ | refine br_o ?_ | refine br_zn ?_ | refine br_on ?_ | refine nz2 ?_ | refine nz6 ?_ | refine nz32 ?_ | refine And.intro (by assumption) ?_))); (conv => whnf)
    refine ⟨v, hv, hi, fun D1 f1 r1 => ?_⟩
    (repeat ((conv => whnf); (first | refine zo0 ?_ | refine zo1 ?_ | refine br_z ?_ | refine br_o ?_ | refine br_zn ?_ | refine br_on ?_ | refine nz2 ?_ | refine nz6 ?_ | refine nz32 ?_ | refine And.intro (by assumption) ?_))); (conv => whnf)
    exact first 12 0 D1 D1 (by omega) f1 r1 (fun _ _ => rfl) (fun d hd => absurd hd (by omega))
  · exact absurd h id
theorem clM_asTold (l : Launch) : ∀ (a : Nat) (ins : Instr) (b dd : Nat), csM_asTold[a]? = some (ins, b, dd) → am_Call l yM_asTold.cls 3 ins b dd (fnM_asTold a) := by
  intro a ins b dd h
  match a, h with
  | 0, h => cases h; exact am_callV (T := F_11) (N := 52) (okM_reads l) wcM_reads (am_m5 (i := 62) rfl rfl) wiM_reads wsM_reads inM rfl (by decide) (by decide +kernel) (by decide) (by decide)
  | k + 1, h => simp [csM_asTold] at h
theorem okM_asTold (l : Launch) : am_Ok l yM_asTold prog_13_method_27_code 2 none 3 spM_asTold := am_ok_of (by decide +kernel) flM_ok kiM_ok klM_ok ckM_asTold (clM_asTold l) wpM_asTold
