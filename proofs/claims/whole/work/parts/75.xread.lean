def fnX_read : Nat → am_Sp := fun a => match a with
  | 0 => spX_sheetOf
  | 1 => spX_found
  | 2 => spE_add
  | 3 => spX_forgetMornings
  | _ => am_no
theorem mfX_read : ∀ a, am_mono (fnX_read a) := fun a => match a with
  | 0 => moX_sheetOf
  | 1 => moX_found
  | 2 => moE_add
  | 3 => moX_forgetMornings
  | _ + 4 => am_no_mono
def spX_read : am_Sp := fun as D L K => match as with
  | [.ref 0, .int x] => ∃ v : vs_T, vok v ∧ ix D v ∧ ∀ (D' : am_D) (L' : am_L), fc D D' → ix D' (gRead v x) → K (some (.int (qRead v x))) D' L'
  | _ => False
theorem moX_read : am_mono spX_read := by
  intro as D L K K' hK h
  unfold spX_read at h ⊢
  split at h
  · obtain ⟨z0, z1, z2, hz⟩ := h
    exact ⟨z0, z1, z2, fun D' L' q1 q2 => hK _ _ _ (hz D' L' q1 q2)⟩
  · exact h
theorem wpX_read : ∀ (as : List Value) (D : am_D) (L : am_L) (K : am_K), spX_read as D L K → am_fit 5 as = true ∧ am_Wp false 0 cdX_read fnX_read K 0 (am_lo 5 as) [] D L := by
  intro as D L K h
  unfold spX_read at h
  split at h
  · rename_i x
    obtain ⟨v, hv, hi, hK⟩ := h
    have kb : ¬ ((0 ≤ x ∧ x ≤ 3)) → K (some (.int (-2))) D L := fun q => by
      have k := hK D L fc_rf
      unfold qRead gRead at k
      by_cases c0 : (0 ≤ x ∧ x ≤ 3)
      · exact absurd c0 q
      · rw [if_neg c0, if_neg c0] at k
        exact k hi
    have hs := hi.1.2.2.2.2.2
    refine ⟨rfl, am_Wp_bl mfX_read [31] 60 _ _ _ _ _ ?_⟩
    (repeat ((conv => whnf); (first | refine zo0 ?_ | refine zo1 ?_ | refine br_z ?_ | refine br_o ?_ | refine br_zn ?_ | refine br_on ?_ | refine nz2 ?_ | refine nz6 ?_ | refine nz32 ?_ | refine And.intro (by assumption) ?_))); (conv => whnf)
    refine ⟨fun ex => ?_, fun ex => ?_, fun ex => ?_, fun ex => ?_, fun ex => ?_⟩
    · subst ex
      have hx : (0 : Int32) ≤ 0 ∧ (0 : Int32) ≤ 3 := by decide
      obtain ⟨w1, w2, w3, w4⟩ := hs 0 (by decide)
      obtain ⟨o7, o9, o60⟩ := vok_sh hv (show 0 < 4 by decide)
      have d1 : D 41 1 = v 8 0 := w1
      have d2 : D 41 2 = nI (vn v 9 0) := w2.trans o9
      have d3 : D 41 3 = 1 - v 7 0 := w3
      have d4 : ∀ i, i < 60 → D 42 i = v 10 (60 * 0 + i) := w4
      (repeat ((conv => whnf); (first | refine zo0 ?_ | refine zo1 ?_ | refine br_z ?_ | refine br_o ?_ | refine br_zn ?_ | refine br_on ?_ | refine nz2 ?_ | refine nz6 ?_ | refine nz32 ?_ | refine And.intro (by assumption) ?_))); (conv => whnf)
      rw [d3]
      refine ⟨fun h3 => ?_, fun h3 => ?_⟩
      rotate_left
      · have e7 : v 7 0 = 0 := by
          rcases o7 with q | q
          · exact q
          · rw [q] at h3; exact absurd (by decide) h3
        have kk := hK (am_up D 0 16 1) L (fc_up (by decide) fc_rf)
        unfold qRead gRead at kk
        rw [if_pos hx, if_pos hx, cN_0, if_pos e7, if_pos e7] at kk
        (repeat ((conv => whnf); (first | refine zo0 ?_ | refine zo1 ?_ | refine br_z ?_ | refine br_o ?_ | refine br_zn ?_ | refine br_on ?_ | refine nz2 ?_ | refine nz6 ?_ | refine nz32 ?_ | refine And.intro (by assumption) ?_))); (conv => whnf)
        exact kk (ix_find hi)
      have e7 : ¬ v 7 0 = 0 := fun q => by rw [q] at h3; exact absurd h3 (by decide)
      have kg : ∀ D', fc D D' → ix D' (rdG 0 20 0 v).1 → K (some (.int (nI (rdG 0 20 0 v).2))) D' L := fun D' f => by
        have kk := hK D' L f
        unfold qRead gRead at kk
        rw [if_pos hx, if_pos hx, cN_0, if_neg e7, if_neg e7] at kk
        exact kk
      have fin : ∀ (n : Nat) (v' : vs_T) (D' : am_D) (k4 : Option Value), n ≤ 20 → (∀ q, q < 7 ∨ 10 < q → D' q = D q) → ie D' v' → (∀ i, i ≠ 6 → v' 0 i = v 0 i) → v' 1 = v 1 → (∀ c, 5 ≤ c → v' c = v c) → (n = 0 → v' = v) → (v', n) = rdG 0 20 0 v → am_Wp false 0 cdX_read fnX_read K 98 [some (.ref 0), some (.int 0), some (.ref 41), some (.int (nI n)), k4] [] D' L := by
        intro n v' D' k4 hn hf he h0 h1 h5 hz hr
        rw [← hr] at kg
        refine am_Wp_bl mfX_read [] 40 _ _ _ _ _ ?_
        (repeat ((conv => whnf); (first | refine zo0 ?_ | refine zo1 ?_ | refine br_z ?_ | refine br_o ?_ | refine br_zn ?_ | refine br_on ?_ | refine nz2 ?_ | refine nz6 ?_ | refine nz32 ?_ | refine And.intro (by assumption) ?_))); (conv => whnf)
        refine ⟨fun h4 => ?_, fun h4 => ?_⟩
        · have n0 : n = 0 := by
            apply Decidable.byContradiction
            intro q
            exact nI_nle (by omega) (by omega) h4
          have ev := hz n0
          (repeat ((conv => whnf); (first | refine zo0 ?_ | refine zo1 ?_ | refine br_z ?_ | refine br_o ?_ | refine br_zn ?_ | refine br_on ?_ | refine nz2 ?_ | refine nz6 ?_ | refine nz32 ?_ | refine And.intro (by assumption) ?_))); (conv => whnf)
          refine kg D' (fun q hq => hf q (by omega)) ?_
          subst ev
          exact ix_ie hi hf he
        · (repeat ((conv => whnf); (first | refine zo0 ?_ | refine zo1 ?_ | refine br_z ?_ | refine br_o ?_ | refine br_zn ?_ | refine br_on ?_ | refine nz2 ?_ | refine nz6 ?_ | refine nz32 ?_ | refine And.intro (by assumption) ?_))); (conv => whnf)
          intro D2 f2 c2
          (repeat ((conv => whnf); (first | refine zo0 ?_ | refine zo1 ?_ | refine br_z ?_ | refine br_o ?_ | refine br_zn ?_ | refine br_on ?_ | refine nz2 ?_ | refine nz6 ?_ | refine nz32 ?_ | refine And.intro (by assumption) ?_))); (conv => whnf)
          exact kg D2 (fun q hq => (f2 q (by omega) (by omega) (by omega) (by omega) (by omega) (by omega)).trans (hf q (by omega))) (ix_ev hi hf he h0 h1 h5 f2 c2)
      have loop : ∀ (m n : Nat) (v' : vs_T) (D' : am_D), m + n = 20 → vok v' → (∀ q, q < 7 ∨ 10 < q → D' q = D q) → ie D' v' → (∀ i, i ≠ 6 → v' 0 i = v 0 i) → v' 1 = v 1 → (∀ c, 5 ≤ c → v' c = v c) → (n = 0 → v' = v) → rdG 0 m n v' = rdG 0 20 0 v → am_Wp false 0 cdX_read fnX_read K 31 [some (.ref 0), some (.int 0), some (.ref 41), some (.int (nI n)), some (.int (nI (3 * n)))] [] D' L := by
        intro m
        induction m with
        | zero =>
          intro n v' D' hm hv' hf he h0 h1 h5 hz hr
          have e2 : nI (3 * n) + 2 = nI (3 * n + 2) := by rw [show (2 : Int32) = nI 2 by decide +kernel, nI_add]
          refine am_Wp_bl mfX_read [31, 98] 30 _ _ _ _ _ ?_
          (repeat ((conv => whnf); (first | refine zo0 ?_ | refine zo1 ?_ | refine br_z ?_ | refine br_o ?_ | refine br_zn ?_ | refine br_on ?_ | refine nz2 ?_ | refine nz6 ?_ | refine nz32 ?_ | refine And.intro (by assumption) ?_))); (conv => whnf)
          rw [e2, hf 41 (by omega), d2, nI_leI (by omega) (by omega)]
          refine ⟨fun h4 => ?_, fun h4 => absurd (by omega) h4⟩
          (repeat ((conv => whnf); (first | refine zo0 ?_ | refine zo1 ?_ | refine br_z ?_ | refine br_o ?_ | refine br_zn ?_ | refine br_on ?_ | refine nz2 ?_ | refine nz6 ?_ | refine nz32 ?_ | refine And.intro (by assumption) ?_))); (conv => whnf)
          exact fin n v' D' _ (by omega) hf he h0 h1 h5 hz hr
        | succ m ih =>
          intro n v' D' hm hv' hf he h0 h1 h5 hz hr
          have e2 : nI (3 * n) + 2 = nI (3 * n + 2) := by rw [show (2 : Int32) = nI 2 by decide +kernel, nI_add]
          have v9 : vn v' 9 0 = vn v 9 0 := by unfold vn; rw [h5 9 (by omega)]
          have it : ∀ i, i < 60 → D' 42 i = v' 10 (60 * 0 + i) := fun i hi' => by rw [hf 42 (by omega), h5 10 (by omega)]; exact d4 i hi'
          refine am_Wp_bl mfX_read [31, 98] 80 _ _ _ _ _ ?_
          (repeat ((conv => whnf); (first | refine zo0 ?_ | refine zo1 ?_ | refine br_z ?_ | refine br_o ?_ | refine br_zn ?_ | refine br_on ?_ | refine nz2 ?_ | refine nz6 ?_ | refine nz32 ?_ | refine And.intro (by assumption) ?_))); (conv => whnf)
          rw [e2, hf 41 (by omega), d2, nI_leI (by omega) (by omega)]
          refine ⟨fun h4 => ?_, fun h4 => ?_⟩
          · have er : rdG 0 (m + 1) n v' = (v', n) := by rw [rdG, if_neg (by rw [v9]; omega)]
            (repeat ((conv => whnf); (first | refine zo0 ?_ | refine zo1 ?_ | refine br_z ?_ | refine br_o ?_ | refine br_zn ?_ | refine br_on ?_ | refine nz2 ?_ | refine nz6 ?_ | refine nz32 ?_ | refine And.intro (by assumption) ?_))); (conv => whnf)
            exact fin n v' D' _ (by omega) hf he h0 h1 h5 hz (er.symm.trans hr)
          (repeat ((conv => whnf); (first | refine zo0 ?_ | refine zo1 ?_ | refine br_z ?_ | refine br_o ?_ | refine br_zn ?_ | refine br_on ?_ | refine nz2 ?_ | refine nz6 ?_ | refine nz32 ?_ | refine And.intro (by assumption) ?_))); (conv => whnf)
          rw [e2]
          refine ⟨fun h6 => absurd h6 (nI_ge (b := 60) (by omega) (by omega)), fun h6 => ?_⟩
          have i0 : vp_in (nI (3 * n)) 60 := vp_in_nI (by omega) (by decide)
          have i1 : vp_in (nI (3 * n) + 1) 60 := by rw [nI_1]; exact vp_in_nI (by omega) (by decide)
          have i2 : vp_in (nI (3 * n) + 2) 60 := by rw [e2]; exact vp_in_nI (by omega) (by decide)
          (repeat ((conv => whnf); (first | refine zo0 ?_ | refine zo1 ?_ | refine br_z ?_ | refine br_o ?_ | refine br_zn ?_ | refine br_on ?_ | refine nz2 ?_ | refine nz6 ?_ | refine nz32 ?_ | refine And.intro (by assumption) ?_))); (conv => whnf)
          rw [e2, nI_1, nI_clamp (n := 3 * n) (by omega), nI_clamp (n := 3 * n + 1) (by omega), nI_clamp (n := 3 * n + 2) (by omega), it _ (by omega), it _ (by omega), it _ (by omega)]
          refine ⟨v', hv', he, fun D2 f2 j2 => ?_⟩
          have g2 : ∀ q, q < 7 ∨ 10 < q → D2 q = D q := fun q hq => (f2 q hq).trans (hf q hq)
          (repeat ((conv => whnf); (first | refine zo0 ?_ | refine zo1 ?_ | refine br_z ?_ | refine br_o ?_ | refine br_zn ?_ | refine br_on ?_ | refine nz2 ?_ | refine nz6 ?_ | refine nz32 ?_ | refine And.intro (by assumption) ?_))); (conv => whnf)
          refine ⟨fun h7 => ?_, fun h7 => ?_⟩
          · have hp := qEvent_pos hv' h7
            have er : rdG 0 (m + 1) n v' = rdG 0 m (n + 1) (gEvent v' (v' 10 (60 * 0 + 3 * n)) (v' 10 (60 * 0 + (3 * n + 1))) (v' 10 (60 * 0 + (3 * n + 2)))) := by
              rw [rdG, if_pos ⟨by rw [v9]; omega, hp⟩]
              rfl
            (repeat ((conv => whnf); (first | refine zo0 ?_ | refine zo1 ?_ | refine br_z ?_ | refine br_o ?_ | refine br_zn ?_ | refine br_on ?_ | refine nz2 ?_ | refine nz6 ?_ | refine nz32 ?_ | refine And.intro (by assumption) ?_))); (conv => whnf)
            rw [nI_1, show (3 : Int32) = nI 3 by decide +kernel, nI_add, show 3 * n + 3 = 3 * (n + 1) by omega]
            exact ih (n + 1) _ D2 (by omega) (vok_event hv') g2 j2 (fun i hi' => (gEvent_0 hi').trans (h0 i hi')) (gEvent_1.trans h1) (fun c hc => (gEvent_c hc).trans (h5 c hc)) (fun q => absurd q (by omega)) (er.symm.trans hr)
          · have hq : qEvent v' (v' 10 (60 * 0 + 3 * n)) (v' 10 (60 * 0 + (3 * n + 1))) (v' 10 (60 * 0 + (3 * n + 2))) ≤ 0 := Int32.le_of_lt (Int32.not_le.mp h7)
            have ev := gEvent_no hq hv'
            have er : rdG 0 (m + 1) n v' = (v', n) := by rw [rdG, if_neg (fun q => Int32.not_lt.mpr hq q.2)]
            rw [ev] at j2
            (repeat ((conv => whnf); (first | refine zo0 ?_ | refine zo1 ?_ | refine br_z ?_ | refine br_o ?_ | refine br_zn ?_ | refine br_on ?_ | refine nz2 ?_ | refine nz6 ?_ | refine nz32 ?_ | refine And.intro (by assumption) ?_))); (conv => whnf)
            exact fin n v' D2 _ (by omega) g2 j2 h0 h1 h5 hz (er.symm.trans hr)
      (repeat ((conv => whnf); (first | refine zo0 ?_ | refine zo1 ?_ | refine br_z ?_ | refine br_o ?_ | refine br_zn ?_ | refine br_on ?_ | refine nz2 ?_ | refine nz6 ?_ | refine nz32 ?_ | refine And.intro (by assumption) ?_))); (conv => whnf)
      exact loop 20 0 v D (by omega) hv (fun _ _ => rfl) hi.1.2.2.1 (fun _ _ => rfl) rfl (fun _ _ => rfl) (fun _ => rfl) rfl
    · subst ex
      have hx : (0 : Int32) ≤ 1 ∧ (1 : Int32) ≤ 3 := by decide
      obtain ⟨w1, w2, w3, w4⟩ := hs 1 (by decide)
      obtain ⟨o7, o9, o60⟩ := vok_sh hv (show 1 < 4 by decide)
      have d1 : D 43 1 = v 8 1 := w1
      have d2 : D 43 2 = nI (vn v 9 1) := w2.trans o9
      have d3 : D 43 3 = 1 - v 7 1 := w3
      have d4 : ∀ i, i < 60 → D 44 i = v 10 (60 * 1 + i) := w4
      (repeat ((conv => whnf); (first | refine zo0 ?_ | refine zo1 ?_ | refine br_z ?_ | refine br_o ?_ | refine br_zn ?_ | refine br_on ?_ | refine nz2 ?_ | refine nz6 ?_ | refine nz32 ?_ | refine And.intro (by assumption) ?_))); (conv => whnf)
      rw [d3]
      refine ⟨fun h3 => ?_, fun h3 => ?_⟩
      rotate_left
      · have e7 : v 7 1 = 0 := by
          rcases o7 with q | q
          · exact q
          · rw [q] at h3; exact absurd (by decide) h3
        have kk := hK (am_up D 0 16 1) L (fc_up (by decide) fc_rf)
        unfold qRead gRead at kk
        rw [if_pos hx, if_pos hx, cN_1, if_pos e7, if_pos e7] at kk
        (repeat ((conv => whnf); (first | refine zo0 ?_ | refine zo1 ?_ | refine br_z ?_ | refine br_o ?_ | refine br_zn ?_ | refine br_on ?_ | refine nz2 ?_ | refine nz6 ?_ | refine nz32 ?_ | refine And.intro (by assumption) ?_))); (conv => whnf)
        exact kk (ix_find hi)
      have e7 : ¬ v 7 1 = 0 := fun q => by rw [q] at h3; exact absurd h3 (by decide)
      have kg : ∀ D', fc D D' → ix D' (rdG 1 20 0 v).1 → K (some (.int (nI (rdG 1 20 0 v).2))) D' L := fun D' f => by
        have kk := hK D' L f
        unfold qRead gRead at kk
        rw [if_pos hx, if_pos hx, cN_1, if_neg e7, if_neg e7] at kk
        exact kk
      have fin : ∀ (n : Nat) (v' : vs_T) (D' : am_D) (k4 : Option Value), n ≤ 20 → (∀ q, q < 7 ∨ 10 < q → D' q = D q) → ie D' v' → (∀ i, i ≠ 6 → v' 0 i = v 0 i) → v' 1 = v 1 → (∀ c, 5 ≤ c → v' c = v c) → (n = 0 → v' = v) → (v', n) = rdG 1 20 0 v → am_Wp false 0 cdX_read fnX_read K 98 [some (.ref 0), some (.int 1), some (.ref 43), some (.int (nI n)), k4] [] D' L := by
        intro n v' D' k4 hn hf he h0 h1 h5 hz hr
        rw [← hr] at kg
        refine am_Wp_bl mfX_read [] 40 _ _ _ _ _ ?_
        (repeat ((conv => whnf); (first | refine zo0 ?_ | refine zo1 ?_ | refine br_z ?_ | refine br_o ?_ | refine br_zn ?_ | refine br_on ?_ | refine nz2 ?_ | refine nz6 ?_ | refine nz32 ?_ | refine And.intro (by assumption) ?_))); (conv => whnf)
        refine ⟨fun h4 => ?_, fun h4 => ?_⟩
        · have n0 : n = 0 := by
            apply Decidable.byContradiction
            intro q
            exact nI_nle (by omega) (by omega) h4
          have ev := hz n0
          (repeat ((conv => whnf); (first | refine zo0 ?_ | refine zo1 ?_ | refine br_z ?_ | refine br_o ?_ | refine br_zn ?_ | refine br_on ?_ | refine nz2 ?_ | refine nz6 ?_ | refine nz32 ?_ | refine And.intro (by assumption) ?_))); (conv => whnf)
          refine kg D' (fun q hq => hf q (by omega)) ?_
          subst ev
          exact ix_ie hi hf he
        · (repeat ((conv => whnf); (first | refine zo0 ?_ | refine zo1 ?_ | refine br_z ?_ | refine br_o ?_ | refine br_zn ?_ | refine br_on ?_ | refine nz2 ?_ | refine nz6 ?_ | refine nz32 ?_ | refine And.intro (by assumption) ?_))); (conv => whnf)
          intro D2 f2 c2
          (repeat ((conv => whnf); (first | refine zo0 ?_ | refine zo1 ?_ | refine br_z ?_ | refine br_o ?_ | refine br_zn ?_ | refine br_on ?_ | refine nz2 ?_ | refine nz6 ?_ | refine nz32 ?_ | refine And.intro (by assumption) ?_))); (conv => whnf)
          exact kg D2 (fun q hq => (f2 q (by omega) (by omega) (by omega) (by omega) (by omega) (by omega)).trans (hf q (by omega))) (ix_ev hi hf he h0 h1 h5 f2 c2)
      have loop : ∀ (m n : Nat) (v' : vs_T) (D' : am_D), m + n = 20 → vok v' → (∀ q, q < 7 ∨ 10 < q → D' q = D q) → ie D' v' → (∀ i, i ≠ 6 → v' 0 i = v 0 i) → v' 1 = v 1 → (∀ c, 5 ≤ c → v' c = v c) → (n = 0 → v' = v) → rdG 1 m n v' = rdG 1 20 0 v → am_Wp false 0 cdX_read fnX_read K 31 [some (.ref 0), some (.int 1), some (.ref 43), some (.int (nI n)), some (.int (nI (3 * n)))] [] D' L := by
        intro m
        induction m with
        | zero =>
          intro n v' D' hm hv' hf he h0 h1 h5 hz hr
          have e2 : nI (3 * n) + 2 = nI (3 * n + 2) := by rw [show (2 : Int32) = nI 2 by decide +kernel, nI_add]
          refine am_Wp_bl mfX_read [31, 98] 30 _ _ _ _ _ ?_
          (repeat ((conv => whnf); (first | refine zo0 ?_ | refine zo1 ?_ | refine br_z ?_ | refine br_o ?_ | refine br_zn ?_ | refine br_on ?_ | refine nz2 ?_ | refine nz6 ?_ | refine nz32 ?_ | refine And.intro (by assumption) ?_))); (conv => whnf)
          rw [e2, hf 43 (by omega), d2, nI_leI (by omega) (by omega)]
          refine ⟨fun h4 => ?_, fun h4 => absurd (by omega) h4⟩
          (repeat ((conv => whnf); (first | refine zo0 ?_ | refine zo1 ?_ | refine br_z ?_ | refine br_o ?_ | refine br_zn ?_ | refine br_on ?_ | refine nz2 ?_ | refine nz6 ?_ | refine nz32 ?_ | refine And.intro (by assumption) ?_))); (conv => whnf)
          exact fin n v' D' _ (by omega) hf he h0 h1 h5 hz hr
        | succ m ih =>
          intro n v' D' hm hv' hf he h0 h1 h5 hz hr
          have e2 : nI (3 * n) + 2 = nI (3 * n + 2) := by rw [show (2 : Int32) = nI 2 by decide +kernel, nI_add]
          have v9 : vn v' 9 1 = vn v 9 1 := by unfold vn; rw [h5 9 (by omega)]
          have it : ∀ i, i < 60 → D' 44 i = v' 10 (60 * 1 + i) := fun i hi' => by rw [hf 44 (by omega), h5 10 (by omega)]; exact d4 i hi'
          refine am_Wp_bl mfX_read [31, 98] 80 _ _ _ _ _ ?_
          (repeat ((conv => whnf); (first | refine zo0 ?_ | refine zo1 ?_ | refine br_z ?_ | refine br_o ?_ | refine br_zn ?_ | refine br_on ?_ | refine nz2 ?_ | refine nz6 ?_ | refine nz32 ?_ | refine And.intro (by assumption) ?_))); (conv => whnf)
          rw [e2, hf 43 (by omega), d2, nI_leI (by omega) (by omega)]
          refine ⟨fun h4 => ?_, fun h4 => ?_⟩
          · have er : rdG 1 (m + 1) n v' = (v', n) := by rw [rdG, if_neg (by rw [v9]; omega)]
            (repeat ((conv => whnf); (first | refine zo0 ?_ | refine zo1 ?_ | refine br_z ?_ | refine br_o ?_ | refine br_zn ?_ | refine br_on ?_ | refine nz2 ?_ | refine nz6 ?_ | refine nz32 ?_ | refine And.intro (by assumption) ?_))); (conv => whnf)
            exact fin n v' D' _ (by omega) hf he h0 h1 h5 hz (er.symm.trans hr)
          (repeat ((conv => whnf); (first | refine zo0 ?_ | refine zo1 ?_ | refine br_z ?_ | refine br_o ?_ | refine br_zn ?_ | refine br_on ?_ | refine nz2 ?_ | refine nz6 ?_ | refine nz32 ?_ | refine And.intro (by assumption) ?_))); (conv => whnf)
          rw [e2]
          refine ⟨fun h6 => absurd h6 (nI_ge (b := 60) (by omega) (by omega)), fun h6 => ?_⟩
          have i0 : vp_in (nI (3 * n)) 60 := vp_in_nI (by omega) (by decide)
          have i1 : vp_in (nI (3 * n) + 1) 60 := by rw [nI_1]; exact vp_in_nI (by omega) (by decide)
          have i2 : vp_in (nI (3 * n) + 2) 60 := by rw [e2]; exact vp_in_nI (by omega) (by decide)
          (repeat ((conv => whnf); (first | refine zo0 ?_ | refine zo1 ?_ | refine br_z ?_ | refine br_o ?_ | refine br_zn ?_ | refine br_on ?_ | refine nz2 ?_ | refine nz6 ?_ | refine nz32 ?_ | refine And.intro (by assumption) ?_))); (conv => whnf)
          rw [e2, nI_1, nI_clamp (n := 3 * n) (by omega), nI_clamp (n := 3 * n + 1) (by omega), nI_clamp (n := 3 * n + 2) (by omega), it _ (by omega), it _ (by omega), it _ (by omega)]
          refine ⟨v', hv', he, fun D2 f2 j2 => ?_⟩
          have g2 : ∀ q, q < 7 ∨ 10 < q → D2 q = D q := fun q hq => (f2 q hq).trans (hf q hq)
          (repeat ((conv => whnf); (first | refine zo0 ?_ | refine zo1 ?_ | refine br_z ?_ | refine br_o ?_ | refine br_zn ?_ | refine br_on ?_ | refine nz2 ?_ | refine nz6 ?_ | refine nz32 ?_ | refine And.intro (by assumption) ?_))); (conv => whnf)
          refine ⟨fun h7 => ?_, fun h7 => ?_⟩
          · have hp := qEvent_pos hv' h7
            have er : rdG 1 (m + 1) n v' = rdG 1 m (n + 1) (gEvent v' (v' 10 (60 * 1 + 3 * n)) (v' 10 (60 * 1 + (3 * n + 1))) (v' 10 (60 * 1 + (3 * n + 2)))) := by
              rw [rdG, if_pos ⟨by rw [v9]; omega, hp⟩]
              rfl
            (repeat ((conv => whnf); (first | refine zo0 ?_ | refine zo1 ?_ | refine br_z ?_ | refine br_o ?_ | refine br_zn ?_ | refine br_on ?_ | refine nz2 ?_ | refine nz6 ?_ | refine nz32 ?_ | refine And.intro (by assumption) ?_))); (conv => whnf)
            rw [nI_1, show (3 : Int32) = nI 3 by decide +kernel, nI_add, show 3 * n + 3 = 3 * (n + 1) by omega]
            exact ih (n + 1) _ D2 (by omega) (vok_event hv') g2 j2 (fun i hi' => (gEvent_0 hi').trans (h0 i hi')) (gEvent_1.trans h1) (fun c hc => (gEvent_c hc).trans (h5 c hc)) (fun q => absurd q (by omega)) (er.symm.trans hr)
          · have hq : qEvent v' (v' 10 (60 * 1 + 3 * n)) (v' 10 (60 * 1 + (3 * n + 1))) (v' 10 (60 * 1 + (3 * n + 2))) ≤ 0 := Int32.le_of_lt (Int32.not_le.mp h7)
            have ev := gEvent_no hq hv'
            have er : rdG 1 (m + 1) n v' = (v', n) := by rw [rdG, if_neg (fun q => Int32.not_lt.mpr hq q.2)]
            rw [ev] at j2
            (repeat ((conv => whnf); (first | refine zo0 ?_ | refine zo1 ?_ | refine br_z ?_ | refine br_o ?_ | refine br_zn ?_ | refine br_on ?_ | refine nz2 ?_ | refine nz6 ?_ | refine nz32 ?_ | refine And.intro (by assumption) ?_))); (conv => whnf)
            exact fin n v' D2 _ (by omega) g2 j2 h0 h1 h5 hz (er.symm.trans hr)
      (repeat ((conv => whnf); (first | refine zo0 ?_ | refine zo1 ?_ | refine br_z ?_ | refine br_o ?_ | refine br_zn ?_ | refine br_on ?_ | refine nz2 ?_ | refine nz6 ?_ | refine nz32 ?_ | refine And.intro (by assumption) ?_))); (conv => whnf)
      exact loop 20 0 v D (by omega) hv (fun _ _ => rfl) hi.1.2.2.1 (fun _ _ => rfl) rfl (fun _ _ => rfl) (fun _ => rfl) rfl
    · subst ex
      have hx : (0 : Int32) ≤ 2 ∧ (2 : Int32) ≤ 3 := by decide
      obtain ⟨w1, w2, w3, w4⟩ := hs 2 (by decide)
      obtain ⟨o7, o9, o60⟩ := vok_sh hv (show 2 < 4 by decide)
      have d1 : D 45 1 = v 8 2 := w1
      have d2 : D 45 2 = nI (vn v 9 2) := w2.trans o9
      have d3 : D 45 3 = 1 - v 7 2 := w3
      have d4 : ∀ i, i < 60 → D 46 i = v 10 (60 * 2 + i) := w4
      (repeat ((conv => whnf); (first | refine zo0 ?_ | refine zo1 ?_ | refine br_z ?_ | refine br_o ?_ | refine br_zn ?_ | refine br_on ?_ | refine nz2 ?_ | refine nz6 ?_ | refine nz32 ?_ | refine And.intro (by assumption) ?_))); (conv => whnf)
      rw [d3]
      refine ⟨fun h3 => ?_, fun h3 => ?_⟩
      rotate_left
      · have e7 : v 7 2 = 0 := by
          rcases o7 with q | q
          · exact q
          · rw [q] at h3; exact absurd (by decide) h3
        have kk := hK (am_up D 0 16 1) L (fc_up (by decide) fc_rf)
        unfold qRead gRead at kk
        rw [if_pos hx, if_pos hx, cN_2, if_pos e7, if_pos e7] at kk
        (repeat ((conv => whnf); (first | refine zo0 ?_ | refine zo1 ?_ | refine br_z ?_ | refine br_o ?_ | refine br_zn ?_ | refine br_on ?_ | refine nz2 ?_ | refine nz6 ?_ | refine nz32 ?_ | refine And.intro (by assumption) ?_))); (conv => whnf)
        exact kk (ix_find hi)
      have e7 : ¬ v 7 2 = 0 := fun q => by rw [q] at h3; exact absurd h3 (by decide)
      have kg : ∀ D', fc D D' → ix D' (rdG 2 20 0 v).1 → K (some (.int (nI (rdG 2 20 0 v).2))) D' L := fun D' f => by
        have kk := hK D' L f
        unfold qRead gRead at kk
        rw [if_pos hx, if_pos hx, cN_2, if_neg e7, if_neg e7] at kk
        exact kk
      have fin : ∀ (n : Nat) (v' : vs_T) (D' : am_D) (k4 : Option Value), n ≤ 20 → (∀ q, q < 7 ∨ 10 < q → D' q = D q) → ie D' v' → (∀ i, i ≠ 6 → v' 0 i = v 0 i) → v' 1 = v 1 → (∀ c, 5 ≤ c → v' c = v c) → (n = 0 → v' = v) → (v', n) = rdG 2 20 0 v → am_Wp false 0 cdX_read fnX_read K 98 [some (.ref 0), some (.int 2), some (.ref 45), some (.int (nI n)), k4] [] D' L := by
        intro n v' D' k4 hn hf he h0 h1 h5 hz hr
        rw [← hr] at kg
        refine am_Wp_bl mfX_read [] 40 _ _ _ _ _ ?_
        (repeat ((conv => whnf); (first | refine zo0 ?_ | refine zo1 ?_ | refine br_z ?_ | refine br_o ?_ | refine br_zn ?_ | refine br_on ?_ | refine nz2 ?_ | refine nz6 ?_ | refine nz32 ?_ | refine And.intro (by assumption) ?_))); (conv => whnf)
        refine ⟨fun h4 => ?_, fun h4 => ?_⟩
        · have n0 : n = 0 := by
            apply Decidable.byContradiction
            intro q
            exact nI_nle (by omega) (by omega) h4
          have ev := hz n0
          (repeat ((conv => whnf); (first | refine zo0 ?_ | refine zo1 ?_ | refine br_z ?_ | refine br_o ?_ | refine br_zn ?_ | refine br_on ?_ | refine nz2 ?_ | refine nz6 ?_ | refine nz32 ?_ | refine And.intro (by assumption) ?_))); (conv => whnf)
          refine kg D' (fun q hq => hf q (by omega)) ?_
          subst ev
          exact ix_ie hi hf he
        · (repeat ((conv => whnf); (first | refine zo0 ?_ | refine zo1 ?_ | refine br_z ?_ | refine br_o ?_ | refine br_zn ?_ | refine br_on ?_ | refine nz2 ?_ | refine nz6 ?_ | refine nz32 ?_ | refine And.intro (by assumption) ?_))); (conv => whnf)
          intro D2 f2 c2
          (repeat ((conv => whnf); (first | refine zo0 ?_ | refine zo1 ?_ | refine br_z ?_ | refine br_o ?_ | refine br_zn ?_ | refine br_on ?_ | refine nz2 ?_ | refine nz6 ?_ | refine nz32 ?_ | refine And.intro (by assumption) ?_))); (conv => whnf)
          exact kg D2 (fun q hq => (f2 q (by omega) (by omega) (by omega) (by omega) (by omega) (by omega)).trans (hf q (by omega))) (ix_ev hi hf he h0 h1 h5 f2 c2)
      have loop : ∀ (m n : Nat) (v' : vs_T) (D' : am_D), m + n = 20 → vok v' → (∀ q, q < 7 ∨ 10 < q → D' q = D q) → ie D' v' → (∀ i, i ≠ 6 → v' 0 i = v 0 i) → v' 1 = v 1 → (∀ c, 5 ≤ c → v' c = v c) → (n = 0 → v' = v) → rdG 2 m n v' = rdG 2 20 0 v → am_Wp false 0 cdX_read fnX_read K 31 [some (.ref 0), some (.int 2), some (.ref 45), some (.int (nI n)), some (.int (nI (3 * n)))] [] D' L := by
        intro m
        induction m with
        | zero =>
          intro n v' D' hm hv' hf he h0 h1 h5 hz hr
          have e2 : nI (3 * n) + 2 = nI (3 * n + 2) := by rw [show (2 : Int32) = nI 2 by decide +kernel, nI_add]
          refine am_Wp_bl mfX_read [31, 98] 30 _ _ _ _ _ ?_
          (repeat ((conv => whnf); (first | refine zo0 ?_ | refine zo1 ?_ | refine br_z ?_ | refine br_o ?_ | refine br_zn ?_ | refine br_on ?_ | refine nz2 ?_ | refine nz6 ?_ | refine nz32 ?_ | refine And.intro (by assumption) ?_))); (conv => whnf)
          rw [e2, hf 45 (by omega), d2, nI_leI (by omega) (by omega)]
          refine ⟨fun h4 => ?_, fun h4 => absurd (by omega) h4⟩
          (repeat ((conv => whnf); (first | refine zo0 ?_ | refine zo1 ?_ | refine br_z ?_ | refine br_o ?_ | refine br_zn ?_ | refine br_on ?_ | refine nz2 ?_ | refine nz6 ?_ | refine nz32 ?_ | refine And.intro (by assumption) ?_))); (conv => whnf)
          exact fin n v' D' _ (by omega) hf he h0 h1 h5 hz hr
        | succ m ih =>
          intro n v' D' hm hv' hf he h0 h1 h5 hz hr
          have e2 : nI (3 * n) + 2 = nI (3 * n + 2) := by rw [show (2 : Int32) = nI 2 by decide +kernel, nI_add]
          have v9 : vn v' 9 2 = vn v 9 2 := by unfold vn; rw [h5 9 (by omega)]
          have it : ∀ i, i < 60 → D' 46 i = v' 10 (60 * 2 + i) := fun i hi' => by rw [hf 46 (by omega), h5 10 (by omega)]; exact d4 i hi'
          refine am_Wp_bl mfX_read [31, 98] 80 _ _ _ _ _ ?_
          (repeat ((conv => whnf); (first | refine zo0 ?_ | refine zo1 ?_ | refine br_z ?_ | refine br_o ?_ | refine br_zn ?_ | refine br_on ?_ | refine nz2 ?_ | refine nz6 ?_ | refine nz32 ?_ | refine And.intro (by assumption) ?_))); (conv => whnf)
          rw [e2, hf 45 (by omega), d2, nI_leI (by omega) (by omega)]
          refine ⟨fun h4 => ?_, fun h4 => ?_⟩
          · have er : rdG 2 (m + 1) n v' = (v', n) := by rw [rdG, if_neg (by rw [v9]; omega)]
            (repeat ((conv => whnf); (first | refine zo0 ?_ | refine zo1 ?_ | refine br_z ?_ | refine br_o ?_ | refine br_zn ?_ | refine br_on ?_ | refine nz2 ?_ | refine nz6 ?_ | refine nz32 ?_ | refine And.intro (by assumption) ?_))); (conv => whnf)
            exact fin n v' D' _ (by omega) hf he h0 h1 h5 hz (er.symm.trans hr)
          (repeat ((conv => whnf); (first | refine zo0 ?_ | refine zo1 ?_ | refine br_z ?_ | refine br_o ?_ | refine br_zn ?_ | refine br_on ?_ | refine nz2 ?_ | refine nz6 ?_ | refine nz32 ?_ | refine And.intro (by assumption) ?_))); (conv => whnf)
          rw [e2]
          refine ⟨fun h6 => absurd h6 (nI_ge (b := 60) (by omega) (by omega)), fun h6 => ?_⟩
          have i0 : vp_in (nI (3 * n)) 60 := vp_in_nI (by omega) (by decide)
          have i1 : vp_in (nI (3 * n) + 1) 60 := by rw [nI_1]; exact vp_in_nI (by omega) (by decide)
          have i2 : vp_in (nI (3 * n) + 2) 60 := by rw [e2]; exact vp_in_nI (by omega) (by decide)
          (repeat ((conv => whnf); (first | refine zo0 ?_ | refine zo1 ?_ | refine br_z ?_ | refine br_o ?_ | refine br_zn ?_ | refine br_on ?_ | refine nz2 ?_ | refine nz6 ?_ | refine nz32 ?_ | refine And.intro (by assumption) ?_))); (conv => whnf)
          rw [e2, nI_1, nI_clamp (n := 3 * n) (by omega), nI_clamp (n := 3 * n + 1) (by omega), nI_clamp (n := 3 * n + 2) (by omega), it _ (by omega), it _ (by omega), it _ (by omega)]
          refine ⟨v', hv', he, fun D2 f2 j2 => ?_⟩
          have g2 : ∀ q, q < 7 ∨ 10 < q → D2 q = D q := fun q hq => (f2 q hq).trans (hf q hq)
          (repeat ((conv => whnf); (first | refine zo0 ?_ | refine zo1 ?_ | refine br_z ?_ | refine br_o ?_ | refine br_zn ?_ | refine br_on ?_ | refine nz2 ?_ | refine nz6 ?_ | refine nz32 ?_ | refine And.intro (by assumption) ?_))); (conv => whnf)
          refine ⟨fun h7 => ?_, fun h7 => ?_⟩
          · have hp := qEvent_pos hv' h7
            have er : rdG 2 (m + 1) n v' = rdG 2 m (n + 1) (gEvent v' (v' 10 (60 * 2 + 3 * n)) (v' 10 (60 * 2 + (3 * n + 1))) (v' 10 (60 * 2 + (3 * n + 2)))) := by
              rw [rdG, if_pos ⟨by rw [v9]; omega, hp⟩]
              rfl
            (repeat ((conv => whnf); (first | refine zo0 ?_ | refine zo1 ?_ | refine br_z ?_ | refine br_o ?_ | refine br_zn ?_ | refine br_on ?_ | refine nz2 ?_ | refine nz6 ?_ | refine nz32 ?_ | refine And.intro (by assumption) ?_))); (conv => whnf)
            rw [nI_1, show (3 : Int32) = nI 3 by decide +kernel, nI_add, show 3 * n + 3 = 3 * (n + 1) by omega]
            exact ih (n + 1) _ D2 (by omega) (vok_event hv') g2 j2 (fun i hi' => (gEvent_0 hi').trans (h0 i hi')) (gEvent_1.trans h1) (fun c hc => (gEvent_c hc).trans (h5 c hc)) (fun q => absurd q (by omega)) (er.symm.trans hr)
          · have hq : qEvent v' (v' 10 (60 * 2 + 3 * n)) (v' 10 (60 * 2 + (3 * n + 1))) (v' 10 (60 * 2 + (3 * n + 2))) ≤ 0 := Int32.le_of_lt (Int32.not_le.mp h7)
            have ev := gEvent_no hq hv'
            have er : rdG 2 (m + 1) n v' = (v', n) := by rw [rdG, if_neg (fun q => Int32.not_lt.mpr hq q.2)]
            rw [ev] at j2
            (repeat ((conv => whnf); (first | refine zo0 ?_ | refine zo1 ?_ | refine br_z ?_ | refine br_o ?_ | refine br_zn ?_ | refine br_on ?_ | refine nz2 ?_ | refine nz6 ?_ | refine nz32 ?_ | refine And.intro (by assumption) ?_))); (conv => whnf)
            exact fin n v' D2 _ (by omega) g2 j2 h0 h1 h5 hz (er.symm.trans hr)
      (repeat ((conv => whnf); (first | refine zo0 ?_ | refine zo1 ?_ | refine br_z ?_ | refine br_o ?_ | refine br_zn ?_ | refine br_on ?_ | refine nz2 ?_ | refine nz6 ?_ | refine nz32 ?_ | refine And.intro (by assumption) ?_))); (conv => whnf)
      exact loop 20 0 v D (by omega) hv (fun _ _ => rfl) hi.1.2.2.1 (fun _ _ => rfl) rfl (fun _ _ => rfl) (fun _ => rfl) rfl
    · subst ex
      have hx : (0 : Int32) ≤ 3 ∧ (3 : Int32) ≤ 3 := by decide
      obtain ⟨w1, w2, w3, w4⟩ := hs 3 (by decide)
      obtain ⟨o7, o9, o60⟩ := vok_sh hv (show 3 < 4 by decide)
      have d1 : D 47 1 = v 8 3 := w1
      have d2 : D 47 2 = nI (vn v 9 3) := w2.trans o9
      have d3 : D 47 3 = 1 - v 7 3 := w3
      have d4 : ∀ i, i < 60 → D 48 i = v 10 (60 * 3 + i) := w4
      (repeat ((conv => whnf); (first | refine zo0 ?_ | refine zo1 ?_ | refine br_z ?_ | refine br_o ?_ | refine br_zn ?_ | refine br_on ?_ | refine nz2 ?_ | refine nz6 ?_ | refine nz32 ?_ | refine And.intro (by assumption) ?_))); (conv => whnf)
      rw [d3]
      refine ⟨fun h3 => ?_, fun h3 => ?_⟩
      rotate_left
      · have e7 : v 7 3 = 0 := by
          rcases o7 with q | q
          · exact q
          · rw [q] at h3; exact absurd (by decide) h3
        have kk := hK (am_up D 0 16 1) L (fc_up (by decide) fc_rf)
        unfold qRead gRead at kk
        rw [if_pos hx, if_pos hx, cN_3, if_pos e7, if_pos e7] at kk
        (repeat ((conv => whnf); (first | refine zo0 ?_ | refine zo1 ?_ | refine br_z ?_ | refine br_o ?_ | refine br_zn ?_ | refine br_on ?_ | refine nz2 ?_ | refine nz6 ?_ | refine nz32 ?_ | refine And.intro (by assumption) ?_))); (conv => whnf)
        exact kk (ix_find hi)
      have e7 : ¬ v 7 3 = 0 := fun q => by rw [q] at h3; exact absurd h3 (by decide)
      have kg : ∀ D', fc D D' → ix D' (rdG 3 20 0 v).1 → K (some (.int (nI (rdG 3 20 0 v).2))) D' L := fun D' f => by
        have kk := hK D' L f
        unfold qRead gRead at kk
        rw [if_pos hx, if_pos hx, cN_3, if_neg e7, if_neg e7] at kk
        exact kk
      have fin : ∀ (n : Nat) (v' : vs_T) (D' : am_D) (k4 : Option Value), n ≤ 20 → (∀ q, q < 7 ∨ 10 < q → D' q = D q) → ie D' v' → (∀ i, i ≠ 6 → v' 0 i = v 0 i) → v' 1 = v 1 → (∀ c, 5 ≤ c → v' c = v c) → (n = 0 → v' = v) → (v', n) = rdG 3 20 0 v → am_Wp false 0 cdX_read fnX_read K 98 [some (.ref 0), some (.int 3), some (.ref 47), some (.int (nI n)), k4] [] D' L := by
        intro n v' D' k4 hn hf he h0 h1 h5 hz hr
        rw [← hr] at kg
        refine am_Wp_bl mfX_read [] 40 _ _ _ _ _ ?_
        (repeat ((conv => whnf); (first | refine zo0 ?_ | refine zo1 ?_ | refine br_z ?_ | refine br_o ?_ | refine br_zn ?_ | refine br_on ?_ | refine nz2 ?_ | refine nz6 ?_ | refine nz32 ?_ | refine And.intro (by assumption) ?_))); (conv => whnf)
        refine ⟨fun h4 => ?_, fun h4 => ?_⟩
        · have n0 : n = 0 := by
            apply Decidable.byContradiction
            intro q
            exact nI_nle (by omega) (by omega) h4
          have ev := hz n0
          (repeat ((conv => whnf); (first | refine zo0 ?_ | refine zo1 ?_ | refine br_z ?_ | refine br_o ?_ | refine br_zn ?_ | refine br_on ?_ | refine nz2 ?_ | refine nz6 ?_ | refine nz32 ?_ | refine And.intro (by assumption) ?_))); (conv => whnf)
          refine kg D' (fun q hq => hf q (by omega)) ?_
          subst ev
          exact ix_ie hi hf he
        · (repeat ((conv => whnf); (first | refine zo0 ?_ | refine zo1 ?_ | refine br_z ?_ | refine br_o ?_ | refine br_zn ?_ | refine br_on ?_ | refine nz2 ?_ | refine nz6 ?_ | refine nz32 ?_ | refine And.intro (by assumption) ?_))); (conv => whnf)
          intro D2 f2 c2
          (repeat ((conv => whnf); (first | refine zo0 ?_ | refine zo1 ?_ | refine br_z ?_ | refine br_o ?_ | refine br_zn ?_ | refine br_on ?_ | refine nz2 ?_ | refine nz6 ?_ | refine nz32 ?_ | refine And.intro (by assumption) ?_))); (conv => whnf)
          exact kg D2 (fun q hq => (f2 q (by omega) (by omega) (by omega) (by omega) (by omega) (by omega)).trans (hf q (by omega))) (ix_ev hi hf he h0 h1 h5 f2 c2)
      have loop : ∀ (m n : Nat) (v' : vs_T) (D' : am_D), m + n = 20 → vok v' → (∀ q, q < 7 ∨ 10 < q → D' q = D q) → ie D' v' → (∀ i, i ≠ 6 → v' 0 i = v 0 i) → v' 1 = v 1 → (∀ c, 5 ≤ c → v' c = v c) → (n = 0 → v' = v) → rdG 3 m n v' = rdG 3 20 0 v → am_Wp false 0 cdX_read fnX_read K 31 [some (.ref 0), some (.int 3), some (.ref 47), some (.int (nI n)), some (.int (nI (3 * n)))] [] D' L := by
        intro m
        induction m with
        | zero =>
          intro n v' D' hm hv' hf he h0 h1 h5 hz hr
          have e2 : nI (3 * n) + 2 = nI (3 * n + 2) := by rw [show (2 : Int32) = nI 2 by decide +kernel, nI_add]
          refine am_Wp_bl mfX_read [31, 98] 30 _ _ _ _ _ ?_
          (repeat ((conv => whnf); (first | refine zo0 ?_ | refine zo1 ?_ | refine br_z ?_ | refine br_o ?_ | refine br_zn ?_ | refine br_on ?_ | refine nz2 ?_ | refine nz6 ?_ | refine nz32 ?_ | refine And.intro (by assumption) ?_))); (conv => whnf)
          rw [e2, hf 47 (by omega), d2, nI_leI (by omega) (by omega)]
          refine ⟨fun h4 => ?_, fun h4 => absurd (by omega) h4⟩
          (repeat ((conv => whnf); (first | refine zo0 ?_ | refine zo1 ?_ | refine br_z ?_ | refine br_o ?_ | refine br_zn ?_ | refine br_on ?_ | refine nz2 ?_ | refine nz6 ?_ | refine nz32 ?_ | refine And.intro (by assumption) ?_))); (conv => whnf)
          exact fin n v' D' _ (by omega) hf he h0 h1 h5 hz hr
        | succ m ih =>
          intro n v' D' hm hv' hf he h0 h1 h5 hz hr
          have e2 : nI (3 * n) + 2 = nI (3 * n + 2) := by rw [show (2 : Int32) = nI 2 by decide +kernel, nI_add]
          have v9 : vn v' 9 3 = vn v 9 3 := by unfold vn; rw [h5 9 (by omega)]
          have it : ∀ i, i < 60 → D' 48 i = v' 10 (60 * 3 + i) := fun i hi' => by rw [hf 48 (by omega), h5 10 (by omega)]; exact d4 i hi'
          refine am_Wp_bl mfX_read [31, 98] 80 _ _ _ _ _ ?_
          (repeat ((conv => whnf); (first | refine zo0 ?_ | refine zo1 ?_ | refine br_z ?_ | refine br_o ?_ | refine br_zn ?_ | refine br_on ?_ | refine nz2 ?_ | refine nz6 ?_ | refine nz32 ?_ | refine And.intro (by assumption) ?_))); (conv => whnf)
          rw [e2, hf 47 (by omega), d2, nI_leI (by omega) (by omega)]
          refine ⟨fun h4 => ?_, fun h4 => ?_⟩
          · have er : rdG 3 (m + 1) n v' = (v', n) := by rw [rdG, if_neg (by rw [v9]; omega)]
            (repeat ((conv => whnf); (first | refine zo0 ?_ | refine zo1 ?_ | refine br_z ?_ | refine br_o ?_ | refine br_zn ?_ | refine br_on ?_ | refine nz2 ?_ | refine nz6 ?_ | refine nz32 ?_ | refine And.intro (by assumption) ?_))); (conv => whnf)
            exact fin n v' D' _ (by omega) hf he h0 h1 h5 hz (er.symm.trans hr)
          (repeat ((conv => whnf); (first | refine zo0 ?_ | refine zo1 ?_ | refine br_z ?_ | refine br_o ?_ | refine br_zn ?_ | refine br_on ?_ | refine nz2 ?_ | refine nz6 ?_ | refine nz32 ?_ | refine And.intro (by assumption) ?_))); (conv => whnf)
          rw [e2]
          refine ⟨fun h6 => absurd h6 (nI_ge (b := 60) (by omega) (by omega)), fun h6 => ?_⟩
          have i0 : vp_in (nI (3 * n)) 60 := vp_in_nI (by omega) (by decide)
          have i1 : vp_in (nI (3 * n) + 1) 60 := by rw [nI_1]; exact vp_in_nI (by omega) (by decide)
          have i2 : vp_in (nI (3 * n) + 2) 60 := by rw [e2]; exact vp_in_nI (by omega) (by decide)
          (repeat ((conv => whnf); (first | refine zo0 ?_ | refine zo1 ?_ | refine br_z ?_ | refine br_o ?_ | refine br_zn ?_ | refine br_on ?_ | refine nz2 ?_ | refine nz6 ?_ | refine nz32 ?_ | refine And.intro (by assumption) ?_))); (conv => whnf)
          rw [e2, nI_1, nI_clamp (n := 3 * n) (by omega), nI_clamp (n := 3 * n + 1) (by omega), nI_clamp (n := 3 * n + 2) (by omega), it _ (by omega), it _ (by omega), it _ (by omega)]
          refine ⟨v', hv', he, fun D2 f2 j2 => ?_⟩
          have g2 : ∀ q, q < 7 ∨ 10 < q → D2 q = D q := fun q hq => (f2 q hq).trans (hf q hq)
          (repeat ((conv => whnf); (first | refine zo0 ?_ | refine zo1 ?_ | refine br_z ?_ | refine br_o ?_ | refine br_zn ?_ | refine br_on ?_ | refine nz2 ?_ | refine nz6 ?_ | refine nz32 ?_ | refine And.intro (by assumption) ?_))); (conv => whnf)
          refine ⟨fun h7 => ?_, fun h7 => ?_⟩
          · have hp := qEvent_pos hv' h7
            have er : rdG 3 (m + 1) n v' = rdG 3 m (n + 1) (gEvent v' (v' 10 (60 * 3 + 3 * n)) (v' 10 (60 * 3 + (3 * n + 1))) (v' 10 (60 * 3 + (3 * n + 2)))) := by
              rw [rdG, if_pos ⟨by rw [v9]; omega, hp⟩]
              rfl
            (repeat ((conv => whnf); (first | refine zo0 ?_ | refine zo1 ?_ | refine br_z ?_ | refine br_o ?_ | refine br_zn ?_ | refine br_on ?_ | refine nz2 ?_ | refine nz6 ?_ | refine nz32 ?_ | refine And.intro (by assumption) ?_))); (conv => whnf)
            rw [nI_1, show (3 : Int32) = nI 3 by decide +kernel, nI_add, show 3 * n + 3 = 3 * (n + 1) by omega]
            exact ih (n + 1) _ D2 (by omega) (vok_event hv') g2 j2 (fun i hi' => (gEvent_0 hi').trans (h0 i hi')) (gEvent_1.trans h1) (fun c hc => (gEvent_c hc).trans (h5 c hc)) (fun q => absurd q (by omega)) (er.symm.trans hr)
          · have hq : qEvent v' (v' 10 (60 * 3 + 3 * n)) (v' 10 (60 * 3 + (3 * n + 1))) (v' 10 (60 * 3 + (3 * n + 2))) ≤ 0 := Int32.le_of_lt (Int32.not_le.mp h7)
            have ev := gEvent_no hq hv'
            have er : rdG 3 (m + 1) n v' = (v', n) := by rw [rdG, if_neg (fun q => Int32.not_lt.mpr hq q.2)]
            rw [ev] at j2
            (repeat ((conv => whnf); (first | refine zo0 ?_ | refine zo1 ?_ | refine br_z ?_ | refine br_o ?_ | refine br_zn ?_ | refine br_on ?_ | refine nz2 ?_ | refine nz6 ?_ | refine nz32 ?_ | refine And.intro (by assumption) ?_))); (conv => whnf)
            exact fin n v' D2 _ (by omega) g2 j2 h0 h1 h5 hz (er.symm.trans hr)
      (repeat ((conv => whnf); (first | refine zo0 ?_ | refine zo1 ?_ | refine br_z ?_ | refine br_o ?_ | refine br_zn ?_ | refine br_on ?_ | refine nz2 ?_ | refine nz6 ?_ | refine nz32 ?_ | refine And.intro (by assumption) ?_))); (conv => whnf)
      exact loop 20 0 v D (by omega) hv (fun _ _ => rfl) hi.1.2.2.1 (fun _ _ => rfl) rfl (fun _ _ => rfl) (fun _ => rfl) rfl
    · (repeat ((conv => whnf); (first | refine zo0 ?_ | refine zo1 ?_ | refine br_z ?_ | refine br_o ?_ | refine br_zn ?_ | refine br_on ?_ | refine nz2 ?_ | refine nz6 ?_ | refine nz32 ?_ | refine And.intro (by assumption) ?_))); (conv => whnf)
      exact kb ex
  · exact absurd h id
theorem clX_read (l : Launch) : ∀ (a : Nat) (ins : Instr) (b dd : Nat), csX_read[a]? = some (ins, b, dd) → am_Call l yX_read.cls 2 ins b dd (fnX_read a) := by
  intro a ins b dd h
  match a, h with
  | 0, h => cases h; exact am_callV (T := F_10) (N := 17) (okX_sheetOf l) wcX_sheetOf (am_m2 (i := 238) rfl rfl) wiX_sheetOf wsX_sheetOf inX rfl (by decide) (by decide +kernel) (by decide) (by decide)
  | 1, h => cases h; exact am_callV (T := F_10) (N := 17) (okX_found l) wcX_found (am_m3 (i := 2) rfl rfl) wiX_found wsX_found inX rfl (by decide) (by decide +kernel) (by decide) (by decide)
  | 2, h => cases h; exact am_callV (T := F_3) (N := 4) (okE_add l) wcE_add (am_m2 (i := 218) rfl rfl) wiE_add wsE_add inE rfl (by decide) (by decide +kernel) (by decide) (by decide)
  | 3, h => cases h; exact am_callV (T := F_10) (N := 17) (okX_forgetMornings l) wcX_forgetMornings (am_m2 (i := 170) rfl rfl) wiX_forgetMornings wsX_forgetMornings inX rfl (by decide) (by decide +kernel) (by decide) (by decide)
  | k + 4, h => simp [csX_read] at h
theorem okX_read (l : Launch) : am_Ok l yX_read prog_1_method_11_code 5 (some .int) 2 spX_read := am_ok_of (by decide +kernel) flX_ok kiX_ok klX_ok ckX_read (clX_read l) wpX_read
