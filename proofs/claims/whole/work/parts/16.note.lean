def fnX_isMinute : Nat → am_Sp := fun _ => am_no
theorem mfX_isMinute : ∀ a, am_mono (fnX_isMinute a) := fun _ => am_no_mono
def ism (x : Int32) : Prop := ¬ x < 0 ∧ ¬ 48 ≤ x
theorem ism_nI {d : Nat} (h : d < 48) : ism (nI d) := ⟨nI_pos (by omega), nI_ge (b := 48) h (by omega)⟩
def spX_isMinute : am_Sp := fun as D L K => match as with
  | [.int x] => (ism x → K (some (.int 1)) D L) ∧ (¬ ism x → K (some (.int 0)) D L)
  | _ => False
theorem moX_isMinute : am_mono spX_isMinute := by
  intro as D L K K' hK h
  unfold spX_isMinute at h ⊢
  split at h
  · exact ⟨fun q => hK _ _ _ (h.1 q), fun q => hK _ _ _ (h.2 q)⟩
  · exact h
theorem wpX_isMinute : ∀ (as : List Value) (D : am_D) (L : am_L) (K : am_K), spX_isMinute as D L K → am_fit 1 as = true ∧ am_Wp false 0 cdX_isMinute fnX_isMinute K 0 (am_lo 1 as) [] D L := by
  intro as D L K h
  unfold spX_isMinute at h
  split at h
  · refine ⟨rfl, am_Wp_bl mfX_isMinute [] 20 _ _ _ _ _ ?_⟩
    (repeat ((conv => whnf); (first | refine zo0 ?_ | refine zo1 ?_ | refine br_z ?_ | refine br_o ?_ | refine br_zn ?_ | refine br_on ?_ | refine nz2 ?_ | refine nz6 ?_ | refine nz32 ?_ | refine And.intro (by assumption) ?_))); (conv => whnf)
    refine ⟨fun h1 => ?_, fun h1 => ?_⟩
    · (repeat ((conv => whnf); (first | refine zo0 ?_ | refine zo1 ?_ | refine br_z ?_ | refine br_o ?_ | refine br_zn ?_ | refine br_on ?_ | refine nz2 ?_ | refine nz6 ?_ | refine nz32 ?_ | refine And.intro (by assumption) ?_))); (conv => whnf)
      exact h.2 (fun q => q.1 h1)
    · (repeat ((conv => whnf); (first | refine zo0 ?_ | refine zo1 ?_ | refine br_z ?_ | refine br_o ?_ | refine br_zn ?_ | refine br_on ?_ | refine nz2 ?_ | refine nz6 ?_ | refine nz32 ?_ | refine And.intro (by assumption) ?_))); (conv => whnf)
      refine ⟨fun h2 => ?_, fun h2 => ?_⟩
      · (repeat ((conv => whnf); (first | refine zo0 ?_ | refine zo1 ?_ | refine br_z ?_ | refine br_o ?_ | refine br_zn ?_ | refine br_on ?_ | refine nz2 ?_ | refine nz6 ?_ | refine nz32 ?_ | refine And.intro (by assumption) ?_))); (conv => whnf)
        exact h.2 (fun q => q.2 h2)
      · (repeat ((conv => whnf); (first | refine zo0 ?_ | refine zo1 ?_ | refine br_z ?_ | refine br_o ?_ | refine br_zn ?_ | refine br_on ?_ | refine nz2 ?_ | refine nz6 ?_ | refine nz32 ?_ | refine And.intro (by assumption) ?_))); (conv => whnf)
        exact h.1 ⟨h1, h2⟩
  · exact absurd h id
theorem clX_isMinute (l : Launch) : ∀ (a : Nat) (ins : Instr) (b dd : Nat), csX_isMinute[a]? = some (ins, b, dd) → am_Call l yX_isMinute.cls 0 ins b dd (fnX_isMinute a) := by
  intro a ins b dd h
  match a, h with
  | k + 0, h => simp [csX_isMinute] at h
theorem okX_isMinute (l : Launch) : am_Ok l yX_isMinute prog_1_method_42_code 1 (some .boolean) 0 spX_isMinute := am_ok_of (by decide +kernel) flX_ok kiX_ok klX_ok ckX_isMinute (clX_isMinute l) wpX_isMinute
def fnY_note : Nat → am_Sp := fun a => match a with
  | 0 => spX_isMinute
  | _ => am_no
theorem mfY_note : ∀ a, am_mono (fnY_note a) := fun a => match a with
  | 0 => moX_isMinute
  | _ + 1 => am_no_mono
/-- what a note puts down -/
def ynote (D D' : am_D) (P w : mw_T) (t : Nat) : Prop := fr 27 30 D D' ∧ (∀ j, j ≠ 4 → D' 27 j = D 27 j) ∧ D' 27 4 = (if w 0 7 = 0 ∧ D 27 4 = -1 then nI t else D 27 4) ∧
  (∀ j, j < 5 * t ∨ 5 * t + 5 ≤ j → D' 28 j = D 28 j) ∧ (D' 28 (5 * t) = nI (w 0 0) ∧ D' 28 (5 * t + 1) = nI (w 0 1) ∧ D' 28 (5 * t + 2) = nI (w 0 3) ∧ D' 28 (5 * t + 3) = nI (w 0 4) ∧ D' 28 (5 * t + 4) = nI (w 0 7)) ∧
  (∀ j, j < 36 * t ∨ 36 * t + 36 ≤ j → D' 29 j = D 29 j) ∧ ∀ d, d < 12 → D' 29 (36 * t + 3 * d) = nI (w 1 d) ∧ D' 29 (36 * t + 3 * d + 1) = nI (w 2 d) ∧ D' 29 (36 * t + 3 * d + 2) = nI (w 3 d) ∧ D' 30 d = if D 30 d = -1 ∧ P 1 d ≤ w 1 d then nI t else D 30 d
def spY_note : am_Sp := fun as D L K => match as with
  | [.ref 27, .ref 22, .ref 15, .int x] => ∃ (P w : mw_T) (g : Int32) (t n : Nat), x = nI t ∧ t < 48 ∧ mw_pok P ∧ mw_ok P n w ∧ (∀ d, d < 12 → D 15 d = nI (P 1 d)) ∧ wx D w g ∧ wd D w ∧ ∀ D', ynote D D' P w t → K none D' L
  | _ => False
theorem moY_note : am_mono spY_note := by
  intro as D L K K' hK h
  unfold spY_note at h ⊢
  split at h
  · obtain ⟨P, w, g, t, n, h1, h2, h3, h4, h5, h6, h7, h8⟩ := h
    exact ⟨P, w, g, t, n, h1, h2, h3, h4, h5, h6, h7, fun D' q => hK _ _ _ (h8 D' q)⟩
  · exact h
theorem wpY_note : ∀ (as : List Value) (D : am_D) (L : am_L) (K : am_K), spY_note as D L K → am_fit 7 as = true ∧ am_Wp false 0 cdY_note fnY_note K 0 (am_lo 7 as) [] D L := by
  intro as D L K h
  unfold spY_note at h
  split at h
  · obtain ⟨P, w, g, t, n, rfl, ht, hP, hO, hwt, hw, hd, hK⟩ := h
    obtain ⟨aL, a4, a5, a6, a7, a8, a9, a10, a11, a13, a14, a15, a16⟩ := hw
    have a12 : D 22 12 = nI (w 0 7) := hd
    have e5 : nI t * 5 = nI (5 * t) := by rw [show (5 : Int32) = nI 5 by decide +kernel, pk_mul, Nat.mul_comm]
    have i0 : vp_in (nI (5 * t)) 240 := vp_in_nI (by omega) (by decide)
    have i1 : vp_in (nI (5 * t) + 1) 240 := by rw [nI_1]; exact vp_in_nI (by omega) (by decide)
    have f2 : nI (5 * t) + 2 = nI (5 * t + 2) := by rw [← nc2, nI_add]
    have f3 : nI (5 * t) + 3 = nI (5 * t + 3) := by rw [← nc3, nI_add]
    have f4 : nI (5 * t) + 4 = nI (5 * t + 4) := by rw [← nc4, nI_add]
    have i2 : vp_in (nI (5 * t) + 2) 240 := by rw [f2]; exact vp_in_nI (by omega) (by decide)
    have i3 : vp_in (nI (5 * t) + 3) 240 := by rw [f3]; exact vp_in_nI (by omega) (by decide)
    have i4 : vp_in (nI (5 * t) + 4) 240 := by rw [f4]; exact vp_in_nI (by omega) (by decide)
    have c0 : (nI (5 * t)).toNatClampNeg = 5 * t := nI_clamp (by omega)
    have c1 : (nI (5 * t) + 1).toNatClampNeg = 5 * t + 1 := by rw [nI_1]; exact nI_clamp (by omega)
    have c2 : (nI (5 * t) + 2).toNatClampNeg = 5 * t + 2 := by rw [f2]; exact nI_clamp (by omega)
    have c3 : (nI (5 * t) + 3).toNatClampNeg = 5 * t + 3 := by rw [f3]; exact nI_clamp (by omega)
    have c4 : (nI (5 * t) + 4).toNatClampNeg = 5 * t + 4 := by rw [f4]; exact nI_clamp (by omega)
    have ms : ∀ d, d < 12 → w 1 d ≤ 5 := fun d hd => Nat.le_trans (hO.2.2.2.2.2.2.2.2 d hd).1 (hP.2.2.2.2.2.1 d hd).1
    have mp : ∀ d, d < 12 → P 1 d ≤ 5 := fun d hd => (hP.2.2.2.2.2.1 d hd).1
    -- the loop over the doors
    have loop : ∀ (D1 : am_D), fr 27 30 D D1 → (∀ j, j ≠ 4 → D1 27 j = D 27 j) → D1 27 4 = (if w 0 7 = 0 ∧ D 27 4 = -1 then nI t else D 27 4) → (∀ j, j < 5 * t ∨ 5 * t + 5 ≤ j → D1 28 j = D 28 j) → (D1 28 (5 * t) = nI (w 0 0) ∧ D1 28 (5 * t + 1) = nI (w 0 1) ∧ D1 28 (5 * t + 2) = nI (w 0 3) ∧ D1 28 (5 * t + 3) = nI (w 0 4) ∧ D1 28 (5 * t + 4) = nI (w 0 7)) →
        ∀ (m i : Nat) (D' : am_D) (k6 : Option Value), i + m = 12 → fr 29 30 D1 D' → (∀ j, j < 36 * t ∨ 36 * t + 36 ≤ j → D' 29 j = D 29 j) → (∀ d, d < i → D' 29 (36 * t + 3 * d) = nI (w 1 d) ∧ D' 29 (36 * t + 3 * d + 1) = nI (w 2 d) ∧ D' 29 (36 * t + 3 * d + 2) = nI (w 3 d) ∧ D' 30 d = if D 30 d = -1 ∧ P 1 d ≤ w 1 d then nI t else D 30 d) → (∀ d, i ≤ d → d < 12 → D' 30 d = D 30 d) →
        am_Wp false 0 cdY_note fnY_note K 106 [some (.ref 27), some (.ref 22), some (.ref 15), some (.int (nI t)), some (.int (nI (5 * t))), some (.int (nI i)), k6] [] D' L := by
      intro D1 g1 g2 g3 g4 g5 m
      induction m with
      | zero =>
        intro i D' k6 hi hf h29 hd1 hd2
        refine am_Wp_bl mfY_note [106] 20 _ _ _ _ _ ?_
        (repeat ((conv => whnf); (first | refine zo0 ?_ | refine zo1 ?_ | refine br_z ?_ | refine br_o ?_ | refine br_zn ?_ | refine br_on ?_ | refine nz2 ?_ | refine nz6 ?_ | refine nz32 ?_ | refine And.intro (by assumption) ?_))); (conv => whnf)
        refine ⟨fun h1 => ?_, fun h1 => absurd (nI_le (a := 12) (by omega) (by omega)) h1⟩
        (repeat ((conv => whnf); (first | refine zo0 ?_ | refine zo1 ?_ | refine br_z ?_ | refine br_o ?_ | refine br_zn ?_ | refine br_on ?_ | refine nz2 ?_ | refine nz6 ?_ | refine nz32 ?_ | refine And.intro (by assumption) ?_))); (conv => whnf)
        have z27 : D' 27 = D1 27 := hf 27 (by omega)
        have z28 : D' 28 = D1 28 := hf 28 (by omega)
        refine hK D' ⟨fr_tr g1 (fr_wk (by omega) (by omega) hf), ?_, ?_, ?_, ?_, h29, fun d hd => hd1 d (by omega)⟩
        · rw [z27]; exact g2
        · rw [z27]; exact g3
        · rw [z28]; exact g4
        · rw [z28]; exact g5
      | succ m ih =>
        intro i D' k6 hi hf h29 hd1 hd2
        have z : ∀ k, k < 27 → D' k = D k := fun k hk => (hf k (by omega)).trans (g1 k (by omega))
        have ec : (nI i).toNatClampNeg = i := nI_clamp (by omega)
        have hin : vp_in (nI i) 12 := vp_in_nI (by omega) (by decide)
        have e3 : (nI t * 12 + nI i) * 3 = nI (36 * t + 3 * i) := by
          rw [show (12 : Int32) = nI 12 by decide +kernel, pk_mul, nI_add, ← nc3, pk_mul]
          congr 1
          omega
        have f2 : nI (36 * t + 3 * i) + 2 = nI (36 * t + 3 * i + 2) := by rw [← nc2, nI_add]
        have j0 : vp_in (nI (36 * t + 3 * i)) 1728 := vp_in_nI (by omega) (by decide)
        have j1 : vp_in (nI (36 * t + 3 * i) + 1) 1728 := by rw [nI_1]; exact vp_in_nI (by omega) (by decide)
        have j2 : vp_in (nI (36 * t + 3 * i) + 2) 1728 := by rw [f2]; exact vp_in_nI (by omega) (by decide)
        have d0 : (nI (36 * t + 3 * i)).toNatClampNeg = 36 * t + 3 * i := nI_clamp (by omega)
        have d1 : (nI (36 * t + 3 * i) + 1).toNatClampNeg = 36 * t + 3 * i + 1 := by rw [nI_1]; exact nI_clamp (by omega)
        have d2 : (nI (36 * t + 3 * i) + 2).toNatClampNeg = 36 * t + 3 * i + 2 := by rw [f2]; exact nI_clamp (by omega)
        obtain ⟨b1, b2, b3⟩ := aL i (by omega)
        refine am_Wp_bl mfY_note [106] 80 _ _ _ _ _ ?_
        (repeat ((conv => whnf); (first | refine zo0 ?_ | refine zo1 ?_ | refine br_z ?_ | refine br_o ?_ | refine br_zn ?_ | refine br_on ?_ | refine nz2 ?_ | refine nz6 ?_ | refine nz32 ?_ | refine And.intro (by assumption) ?_))); (conv => whnf)
        refine ⟨fun h1 => absurd h1 (nI_ge (b := 12) (by omega) (by omega)), fun h1 => ?_⟩
        (repeat ((conv => whnf); (first | refine zo0 ?_ | refine zo1 ?_ | refine br_z ?_ | refine br_o ?_ | refine br_zn ?_ | refine br_on ?_ | refine nz2 ?_ | refine nz6 ?_ | refine nz32 ?_ | refine And.intro (by assumption) ?_))); (conv => whnf)
        rw [e3]
        (repeat ((conv => whnf); (first | refine zo0 ?_ | refine zo1 ?_ | refine br_z ?_ | refine br_o ?_ | refine br_zn ?_ | refine br_on ?_ | refine nz2 ?_ | refine nz6 ?_ | refine nz32 ?_ | refine And.intro (by assumption) ?_))); (conv => whnf)
        have z23 : D' 23 = D 23 := z 23 (by omega)
        have z24 : D' 24 = D 24 := z 24 (by omega)
        have z25 : D' 25 = D 25 := z 25 (by omega)
        have z15 : D' 15 = D 15 := z 15 (by omega)
        have b4 := hwt i (by omega)
        have u24 : ∀ (D : am_D) (j : Nat) (v : Int32), am_up D 29 j v 24 = D 24 := fun D j v => am_up_ne (by decide)
        have u25 : ∀ (D : am_D) (j : Nat) (v : Int32), am_up D 29 j v 25 = D 25 := fun D j v => am_up_ne (by decide)
        have u23 : ∀ (D : am_D) (j : Nat) (v : Int32), am_up D 29 j v 23 = D 23 := fun D j v => am_up_ne (by decide)
        have u15 : ∀ (D : am_D) (j : Nat) (v : Int32), am_up D 29 j v 15 = D 15 := fun D j v => am_up_ne (by decide)
        have u30 : ∀ (D : am_D) (j : Nat) (v : Int32), am_up D 29 j v 30 = D 30 := fun D j v => am_up_ne (by decide)
        have h30 : D' 30 i = D 30 i := hd2 i (Nat.le_refl i) (by omega)
        have fin : ∀ (D3 : am_D) (v : Int32), (v = if D 30 i = -1 ∧ P 1 i ≤ w 1 i then nI t else D 30 i) → (∀ k, k ≠ 30 → D3 k = am_up (am_up (am_up D' 29 (36 * t + 3 * i) (nI (w 1 i))) 29 (36 * t + 3 * i + 1) (nI (w 2 i))) 29 (36 * t + 3 * i + 2) (nI (w 3 i)) k) → (∀ d, D3 30 d = if d = i then v else D' 30 d) → am_Wp false 0 cdY_note fnY_note K 106 [some (.ref 27), some (.ref 22), some (.ref 15), some (.int (nI t)), some (.int (nI (5 * t))), some (.int (nI i + 1)), some (.int (nI (36 * t + 3 * i)))] [] D3 L := by
          intro D3 v hv q1 q2
          have q29 := q1 29 (by decide)
          rw [nI_1]
          refine ih (i + 1) _ _ (by omega) ?_ ?_ ?_ ?_
          · intro k hk
            rw [q1 k (by omega), am_up_ne (by omega), am_up_ne (by omega), am_up_ne (by omega)]
            exact hf k hk
          · intro j hj
            have := h29 j hj
            have n1 : ¬ j = 36 * t + 3 * i := by omega
            have n2 : ¬ j = 36 * t + 3 * i + 1 := by omega
            have n3 : ¬ j = 36 * t + 3 * i + 2 := by omega
            rw [q29]
            simp [am_up, upd, n1, n2, n3, this]
          · intro d hd
            rw [q29, q2 d]
            by_cases ed : d = i
            · subst ed
              simp [am_up, upd, hv]
            · have := hd1 d (by omega)
              have n1 : ¬ 36 * t + 3 * d = 36 * t + 3 * i := by omega
              have n2 : ¬ 36 * t + 3 * d = 36 * t + 3 * i + 1 := by omega
              have n3 : ¬ 36 * t + 3 * d = 36 * t + 3 * i + 2 := by omega
              have n4 : ¬ 36 * t + 3 * d + 1 = 36 * t + 3 * i := by omega
              have n5 : ¬ 36 * t + 3 * d + 1 = 36 * t + 3 * i + 1 := by omega
              have n6 : ¬ 36 * t + 3 * d + 1 = 36 * t + 3 * i + 2 := by omega
              have n7 : ¬ 36 * t + 3 * d + 2 = 36 * t + 3 * i := by omega
              have n8 : ¬ 36 * t + 3 * d + 2 = 36 * t + 3 * i + 1 := by omega
              have n9 : ¬ 36 * t + 3 * d + 2 = 36 * t + 3 * i + 2 := by omega
              rw [if_neg ed]
              simp only [am_up_eq, upd, if_neg n1, if_neg n2, if_neg n3, if_neg n4, if_neg n5, if_neg n6, if_neg n7, if_neg n8, if_neg n9]
              exact this
          · intro d h1 h2
            have ed : ¬ d = i := by omega
            rw [q2 d, if_neg ed]
            exact hd2 d (by omega) h2
        simp only [ec, d0, d1, d2, u24, u25, u23, u30, z23, z24, z25, b1, b2, b3, h30]
        refine ⟨fun h2 => ?_, fun h2 => ?_⟩
        · (repeat ((conv => whnf); (first | refine zo0 ?_ | refine zo1 ?_ | refine br_z ?_ | refine br_o ?_ | refine br_zn ?_ | refine br_on ?_ | refine nz2 ?_ | refine nz6 ?_ | refine nz32 ?_ | refine And.intro (by assumption) ?_))); (conv => whnf)
          refine fin _ (D 30 i) (by rw [if_neg (fun q => h2 q.1)]) (fun k hk => rfl) (fun d => ?_)
          rw [u30, u30, u30]
          by_cases ed : d = i
          · rw [if_pos ed, ed]; exact h30
          · rw [if_neg ed]
        · (repeat ((conv => whnf); (first | refine zo0 ?_ | refine zo1 ?_ | refine br_z ?_ | refine br_o ?_ | refine br_zn ?_ | refine br_on ?_ | refine nz2 ?_ | refine nz6 ?_ | refine nz32 ?_ | refine And.intro (by assumption) ?_))); (conv => whnf)
          simp only [ec, u23, u15, z23, z15, b1, b4]
          refine ⟨fun h3 => ?_, fun h3 => ?_⟩
          · rw [nI_ltI (by have := ms i (by omega); omega) (by have := mp i (by omega); omega)] at h3
            (repeat ((conv => whnf); (first | refine zo0 ?_ | refine zo1 ?_ | refine br_z ?_ | refine br_o ?_ | refine br_zn ?_ | refine br_on ?_ | refine nz2 ?_ | refine nz6 ?_ | refine nz32 ?_ | refine And.intro (by assumption) ?_))); (conv => whnf)
            refine fin _ (D 30 i) (by rw [if_neg (fun q => by omega)]) (fun k hk => rfl) (fun d => ?_)
            rw [u30, u30, u30]
            by_cases ed : d = i
            · rw [if_pos ed, ed]; exact h30
            · rw [if_neg ed]
          · rw [nI_ltI (by have := ms i (by omega); omega) (by have := mp i (by omega); omega)] at h3
            (repeat ((conv => whnf); (first | refine zo0 ?_ | refine zo1 ?_ | refine br_z ?_ | refine br_o ?_ | refine br_zn ?_ | refine br_on ?_ | refine nz2 ?_ | refine nz6 ?_ | refine nz32 ?_ | refine And.intro (by assumption) ?_))); (conv => whnf)
            refine fin _ (nI t) (by rw [if_pos ⟨h2, by omega⟩]) (fun k hk => am_up_ne hk) (fun d => ?_)
            rw [am_up_eq, u30, u30, u30, ec]
            rfl
    refine ⟨rfl, am_Wp_bl mfY_note [106] 80 _ _ _ _ _ ?_⟩
    (repeat ((conv => whnf); (first | refine zo0 ?_ | refine zo1 ?_ | refine br_z ?_ | refine br_o ?_ | refine br_zn ?_ | refine br_on ?_ | refine nz2 ?_ | refine nz6 ?_ | refine nz32 ?_ | refine And.intro (by assumption) ?_))); (conv => whnf)
    refine ⟨fun _ => ?_, fun q => absurd (ism_nI ht) q⟩
    (repeat ((conv => whnf); (first | refine zo0 ?_ | refine zo1 ?_ | refine br_z ?_ | refine br_o ?_ | refine br_zn ?_ | refine br_on ?_ | refine nz2 ?_ | refine nz6 ?_ | refine nz32 ?_ | refine And.intro (by assumption) ?_))); (conv => whnf)
    refine ⟨fun _ => ?_, fun q => absurd (by decide +kernel) q⟩
    (repeat ((conv => whnf); (first | refine zo0 ?_ | refine zo1 ?_ | refine br_z ?_ | refine br_o ?_ | refine br_zn ?_ | refine br_on ?_ | refine nz2 ?_ | refine nz6 ?_ | refine nz32 ?_ | refine And.intro (by assumption) ?_))); (conv => whnf)
    rw [e5]
    (repeat ((conv => whnf); (first | refine zo0 ?_ | refine zo1 ?_ | refine br_z ?_ | refine br_o ?_ | refine br_zn ?_ | refine br_on ?_ | refine nz2 ?_ | refine nz6 ?_ | refine nz32 ?_ | refine And.intro (by assumption) ?_))); (conv => whnf)
    have u22 : ∀ (D : am_D) (j : Nat) (v : Int32), am_up D 28 j v 22 = D 22 := fun D j v => am_up_ne (by decide)
    have u27 : ∀ (D : am_D) (j : Nat) (v : Int32), am_up D 28 j v 27 = D 27 := fun D j v => am_up_ne (by decide)
    simp only [c0, c1, c2, c3, c4, u22, u27, a4, a5, a7, a8, a12]
    obtain ⟨D0, hD0⟩ : ∃ D0 : am_D, am_up (am_up (am_up (am_up (am_up D 28 (5 * t) (nI (w 0 0))) 28 (5 * t + 1) (nI (w 0 1))) 28 (5 * t + 2) (nI (w 0 3))) 28 (5 * t + 3) (nI (w 0 4))) 28 (5 * t + 4) (nI (w 0 7)) = D0 := ⟨_, rfl⟩
    have w0 : fr 28 28 D D0 := by rw [← hD0]; exact (by repeat (first | exact fr_rf | refine fr_up (by decide) (by decide) ?_ | refine fr_upA (by decide) (by decide) ?_))
    have w1 : ∀ j, j < 5 * t ∨ 5 * t + 5 ≤ j → D0 28 j = D 28 j := by
      intro j hj
      have n0 : ¬ j = 5 * t := by omega
      have n1 : ¬ j = 5 * t + 1 := by omega
      have n2 : ¬ j = 5 * t + 2 := by omega
      have n3 : ¬ j = 5 * t + 3 := by omega
      have n4 : ¬ j = 5 * t + 4 := by omega
      rw [← hD0]
      simp only [am_up_eq, upd, if_neg n0, if_neg n1, if_neg n2, if_neg n3, if_neg n4]
    have w2 : D0 28 (5 * t) = nI (w 0 0) ∧ D0 28 (5 * t + 1) = nI (w 0 1) ∧ D0 28 (5 * t + 2) = nI (w 0 3) ∧ D0 28 (5 * t + 3) = nI (w 0 4) ∧ D0 28 (5 * t + 4) = nI (w 0 7) := by
      rw [← hD0]
      simp [am_up, upd]
    have w27 : D0 27 = D 27 := w0 27 (by omega)
    have w28 : ∀ k, k ≠ 27 → k ≠ 28 → D0 k = D k := fun k h1 h2 => w0 k (by omega)
    simp only [hD0]
    have run0 : ∀ D1 : am_D, (∀ k, k ≠ 27 → D1 k = D0 k) → (∀ j, j ≠ 4 → D1 27 j = D 27 j) → D1 27 4 = (if w 0 7 = 0 ∧ D 27 4 = -1 then nI t else D 27 4) → ∀ k6, am_Wp false 0 cdY_note fnY_note K 106 [some (.ref 27), some (.ref 22), some (.ref 15), some (.int (nI t)), some (.int (nI (5 * t))), some (.int 0), k6] [] D1 L := by
      intro D1 q1 q2 q3 k6
      have z28 : D1 28 = D0 28 := q1 28 (by decide)
      refine loop D1 (fun k hk => (q1 k (by omega)).trans (w28 k (by omega) (by omega))) q2 q3 (by rw [z28]; exact w1) (by rw [z28]; exact w2) 12 0 D1 k6 (by omega) fr_rf (fun j _ => ?_) (fun d hd => absurd hd (by omega)) (fun d _ _ => ?_)
      · rw [q1 29 (by decide), w28 29 (by decide) (by decide)]
      · rw [q1 30 (by decide), w28 30 (by decide) (by decide)]
    have hz : nI (w 0 7) = 0 ↔ w 0 7 = 0 := by rw [← nI_0, nI_eq (by have := hO.2.2.2.2.2.2.1; omega) (by omega)]
    refine ⟨fun h1 => ?_, fun h1 => ?_⟩
    · rw [hz] at h1
      (repeat ((conv => whnf); (first | refine zo0 ?_ | refine zo1 ?_ | refine br_z ?_ | refine br_o ?_ | refine br_zn ?_ | refine br_on ?_ | refine nz2 ?_ | refine nz6 ?_ | refine nz32 ?_ | refine And.intro (by assumption) ?_))); (conv => whnf)
      refine run0 D0 (fun _ _ => rfl) (fun j _ => by rw [w27]) (by rw [w27, if_neg (fun q => h1 q.1)]) _
    · rw [hz] at h1
      (repeat ((conv => whnf); (first | refine zo0 ?_ | refine zo1 ?_ | refine br_z ?_ | refine br_o ?_ | refine br_zn ?_ | refine br_on ?_ | refine nz2 ?_ | refine nz6 ?_ | refine nz32 ?_ | refine And.intro (by assumption) ?_))); (conv => whnf)
      rw [w27]
      refine ⟨fun h2 => ?_, fun h2 => ?_⟩
      · (repeat ((conv => whnf); (first | refine zo0 ?_ | refine zo1 ?_ | refine br_z ?_ | refine br_o ?_ | refine br_zn ?_ | refine br_on ?_ | refine nz2 ?_ | refine nz6 ?_ | refine nz32 ?_ | refine And.intro (by assumption) ?_))); (conv => whnf)
        refine run0 D0 (fun _ _ => rfl) (fun j _ => by rw [w27]) (by rw [w27, if_neg (fun q => h2 q.2)]) _
      · (repeat ((conv => whnf); (first | refine zo0 ?_ | refine zo1 ?_ | refine br_z ?_ | refine br_o ?_ | refine br_zn ?_ | refine br_on ?_ | refine nz2 ?_ | refine nz6 ?_ | refine nz32 ?_ | refine And.intro (by assumption) ?_))); (conv => whnf)
        refine run0 _ (fun k hk => am_up_ne hk) (fun j hj => ?_) ?_ _
        · rw [am_up_eq, w27]
          simp [upd, hj]
        · rw [am_up_eq, if_pos ⟨h1, h2⟩]
          simp [upd]
  · exact absurd h id
theorem clY_note (l : Launch) : ∀ (a : Nat) (ins : Instr) (b dd : Nat), csY_note[a]? = some (ins, b, dd) → am_Call l yY_note.cls 1 ins b dd (fnY_note a) := by
  intro a ins b dd h
  match a, h with
  | 0, h => cases h; exact am_callSN (okX_isMinute l) wcX_isMinute (am_n3 (i := 85) rfl rfl) wtX_isMinute inX (by decide +kernel) (by decide) (by decide)
  | k + 1, h => simp [csY_note] at h
theorem okY_note (l : Launch) : am_Ok l yY_note prog_4_method_3_code 7 none 1 spY_note := am_ok_of (by decide +kernel) flY_ok kiY_ok klY_ok ckY_note (clY_note l) wpY_note
