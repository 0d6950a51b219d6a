def fnX_copy : Nat → am_Sp := fun a => match a with
  | 0 => spX_sheetOf
  | 1 => spX_found
  | 2 => spG_holds
  | 3 => am_copy
  | _ => am_no
theorem mfX_copy : ∀ a, am_mono (fnX_copy a) := fun a => match a with
  | 0 => moX_sheetOf
  | 1 => moX_found
  | 2 => moG_holds
  | 3 => am_copy_mono
  | _ + 4 => am_no_mono
def spX_copy : am_Sp := fun as D L K => match as with
  | [.ref 0, .int x, .int y, .int z, .int u, .int r] => ∃ v : vs_T, vok v ∧ ix D v ∧ ∀ (D' : am_D) (L' : am_L), fc D D' → ix D' (gCopy v x y z u r) → K (some (.int (qCopy v x y z u r))) D' L'
  | _ => False
theorem moX_copy : am_mono spX_copy := by
  intro as D L K K' hK h
  unfold spX_copy at h ⊢
  split at h
  · obtain ⟨z0, z1, z2, hz⟩ := h
    exact ⟨z0, z1, z2, fun D' L' q1 q2 => hK _ _ _ (hz D' L' q1 q2)⟩
  · exact h
theorem wpX_copy : ∀ (as : List Value) (D : am_D) (L : am_L) (K : am_K), spX_copy as D L K → am_fit 8 as = true ∧ am_Wp false 0 cdX_copy fnX_copy K 0 (am_lo 8 as) [] D L := by
  intro as D L K h
  unfold spX_copy at h
  split at h
  · rename_i x y z u r
    obtain ⟨v, hv, hi, hK⟩ := h
    have kb : ¬ ((0 ≤ x ∧ x ≤ 3) ∧ (0 ≤ z ∧ z ≤ 3)) → K (some (.int (-2))) D L := fun q => by
      have k := hK D L fc_rf
      unfold qCopy gCopy at k
      by_cases c0 : (0 ≤ x ∧ x ≤ 3)
      · by_cases c1 : (0 ≤ z ∧ z ≤ 3)
        · exact absurd ⟨c0, c1⟩ q
        · rw [if_pos c0, if_pos c0, if_neg c1, if_neg c1] at k
          exact k hi
      · rw [if_neg c0, if_neg c0] at k
        exact k hi
    have hs := hi.1.2.2.2.2.2
    refine ⟨rfl, am_Wp_bl mfX_copy [] 60 _ _ _ _ _ ?_⟩
    (repeat ((conv => whnf); (first | refine zo0 ?_ | refine zo1 ?_ | refine br_z ?_ | refine br_o ?_ | refine br_zn ?_ | refine br_on ?_ | refine nz2 ?_ | refine nz6 ?_ | refine nz32 ?_ | refine And.intro (by assumption) ?_))); (conv => whnf)
    refine ⟨fun ex => ?_, fun ex => ?_, fun ex => ?_, fun ex => ?_, fun ex => ?_⟩
    · subst ex
      have hx : (0 : Int32) ≤ 0 ∧ (0 : Int32) ≤ 3 := by decide
      obtain ⟨w1, w2, w3, w4⟩ := hs 0 (by decide)
      obtain ⟨o7, o9, o60⟩ := vok_sh hv (show 0 < 4 by decide)
      have d1 : D 41 1 = v 8 0 := w1
      have d2 : D 41 2 = nI (vn v 9 0) := w2.trans o9
      have d3 : D 41 3 = 1 - v 7 0 := w3
      have d4 : ∀ i, i < 60 → D 42 i = v 10 (60 * 0 + i) := w4
      (repeat ((conv => whnf); (first | refine zo0 ?_ | refine zo1 ?_ | refine br_z ?_ | refine br_o ?_ | refine br_zn ?_ | refine br_on ?_ | refine nz2 ?_ | refine nz6 ?_ | refine nz32 ?_ | refine And.intro (by assumption) ?_))); (conv => whnf)
      refine ⟨fun ez => ?_, fun ez => ?_, fun ez => ?_, fun ez => ?_, fun ez => ?_⟩
      · subst ez
        have hz : (0 : Int32) ≤ 0 ∧ (0 : Int32) ≤ 3 := by decide
        obtain ⟨x1, x2, x3, x4⟩ := hs 0 (by decide)
        obtain ⟨p7, p9, p60⟩ := vok_sh hv (show 0 < 4 by decide)
        have f1 : D 41 1 = v 8 0 := x1
        have f3 : D 41 3 = 1 - v 7 0 := x3
        (repeat ((conv => whnf); (first | refine zo0 ?_ | refine zo1 ?_ | refine br_z ?_ | refine br_o ?_ | refine br_zn ?_ | refine br_on ?_ | refine nz2 ?_ | refine nz6 ?_ | refine nz32 ?_ | refine And.intro (by assumption) ?_))); (conv => whnf)
        rw [d3]
        refine ⟨fun h1 => ?_, fun h1 => ?_⟩
        · have e7 : v 7 0 = 0 := by
            rcases o7 with q | q
            · exact q
            · rw [q] at h1; exact absurd (by decide) h1
          have kk := hK (am_up D 0 16 1) L (fc_up (by decide) fc_rf)
          unfold qCopy gCopy at kk
          rw [if_pos hx, if_pos hx, if_pos hz, if_pos hz, cN_0, if_pos e7, if_pos e7] at kk
          (repeat ((conv => whnf); (first | refine zo0 ?_ | refine zo1 ?_ | refine br_z ?_ | refine br_o ?_ | refine br_zn ?_ | refine br_on ?_ | refine nz2 ?_ | refine nz6 ?_ | refine nz32 ?_ | refine And.intro (by assumption) ?_))); (conv => whnf)
          exact kk (ix_find hi)
        have e7 : ¬ v 7 0 = 0 := fun q => by rw [q] at h1; exact absurd h1 (by decide)
        (repeat ((conv => whnf); (first | refine zo0 ?_ | refine zo1 ?_ | refine br_z ?_ | refine br_o ?_ | refine br_zn ?_ | refine br_on ?_ | refine nz2 ?_ | refine nz6 ?_ | refine nz32 ?_ | refine And.intro (by assumption) ?_))); (conv => whnf)
        rw [f3]
        refine ⟨fun h2 => ?_, fun h2 => ?_⟩
        rotate_left
        · have g7 : v 7 0 = 0 := by
            rcases p7 with q | q
            · exact q
            · rw [q] at h2; exact absurd (by decide) h2
          exact absurd g7 e7
        have g7 : ¬ v 7 0 = 0 := fun q => by rw [q] at h2; exact absurd h2 (by decide)
        (repeat ((conv => whnf); (first | refine zo0 ?_ | refine zo1 ?_ | refine br_z ?_ | refine br_o ?_ | refine br_zn ?_ | refine br_on ?_ | refine nz2 ?_ | refine nz6 ?_ | refine nz32 ?_ | refine And.intro (by assumption) ?_))); (conv => whnf)
        rw [d1]
        refine ⟨fun h3 => ?_, fun h3 => ?_⟩
        rotate_left
        · have kk := hK (am_up D 0 16 4) L (fc_up (by decide) fc_rf)
          unfold qCopy gCopy at kk
          rw [if_pos hx, if_pos hx, if_pos hz, if_pos hz, cN_0, if_neg e7, if_neg e7, if_neg g7, if_neg g7, if_neg h3, if_neg h3] at kk
          (repeat ((conv => whnf); (first | refine zo0 ?_ | refine zo1 ?_ | refine br_z ?_ | refine br_o ?_ | refine br_zn ?_ | refine br_on ?_ | refine nz2 ?_ | refine nz6 ?_ | refine nz32 ?_ | refine And.intro (by assumption) ?_))); (conv => whnf)
          exact kk (ix_find hi)
        have kbad : ¬ (hld (v 9 0) y r = true ∧ hld (v 9 0) u r = true) → K (some (.int (-12))) (am_up D 0 16 2) L := fun q => by
          have kk := hK (am_up D 0 16 2) L (fc_up (by decide) fc_rf)
          unfold qCopy gCopy at kk
          rw [if_pos hx, if_pos hx, if_pos hz, if_pos hz, cN_0, if_neg e7, if_neg e7, if_neg g7, if_neg g7, if_pos h3, if_pos h3, if_neg q, if_neg q] at kk
          exact kk (ix_find hi)
        have kgood : (hld (v 9 0) y r = true ∧ hld (v 9 0) u r = true) → ∀ D', fc D D' → ix D' (gCp v 0 (cN y) 0 (cN u) (cN r)) → K (some (.int 1)) D' L := fun q D' f => by
          have kk := hK D' L f
          unfold qCopy gCopy at kk
          rw [if_pos hx, if_pos hx, if_pos hz, if_pos hz, cN_0, if_neg e7, if_neg e7, if_neg g7, if_neg g7, if_pos h3, if_pos h3, if_pos q, if_pos q] at kk
          exact kk
        (repeat ((conv => whnf); (first | refine zo0 ?_ | refine zo1 ?_ | refine br_z ?_ | refine br_o ?_ | refine br_zn ?_ | refine br_on ?_ | refine nz2 ?_ | refine nz6 ?_ | refine nz32 ?_ | refine And.intro (by assumption) ?_))); (conv => whnf)
        refine ⟨v, 0, hv, hs, Or.inl ⟨rfl, rfl⟩, fun r1 hr1 => ?_⟩
        rcases hr1 with ⟨t1, rfl⟩ | ⟨t1, rfl⟩
        rotate_left
        · have kk := kbad (fun q => by rw [t1] at q; exact absurd q.1 (by decide))
          (repeat ((conv => whnf); (first | refine zo0 ?_ | refine zo1 ?_ | refine br_z ?_ | refine br_o ?_ | refine br_zn ?_ | refine br_on ?_ | refine nz2 ?_ | refine nz6 ?_ | refine nz32 ?_ | refine And.intro (by assumption) ?_))); (conv => whnf)
          exact kk
        (repeat ((conv => whnf); (first | refine zo0 ?_ | refine zo1 ?_ | refine br_z ?_ | refine br_o ?_ | refine br_zn ?_ | refine br_on ?_ | refine nz2 ?_ | refine nz6 ?_ | refine nz32 ?_ | refine And.intro (by assumption) ?_))); (conv => whnf)
        refine ⟨v, 0, hv, hs, Or.inl ⟨rfl, rfl⟩, fun r2 hr2 => ?_⟩
        rcases hr2 with ⟨t2, rfl⟩ | ⟨t2, rfl⟩
        rotate_left
        · have kk := kbad (fun q => by rw [t2] at q; exact absurd q.2 (by decide))
          (repeat ((conv => whnf); (first | refine zo0 ?_ | refine zo1 ?_ | refine br_z ?_ | refine br_o ?_ | refine br_zn ?_ | refine br_on ?_ | refine nz2 ?_ | refine nz6 ?_ | refine nz32 ?_ | refine And.intro (by assumption) ?_))); (conv => whnf)
          exact kk
        have kk := kgood ⟨t1, t2⟩
        have ny : ¬ y < 0 := fun q => by rw [hld_i q] at t1; exact absurd t1 (by decide)
        have nu : ¬ u < 0 := fun q => by rw [hld_i q] at t2; exact absurd t2 (by decide)
        have nr : ¬ r < 0 := fun q => by rw [hld_n q] at t1; exact absurd t1 (by decide)
        obtain ⟨a, ha, ea⟩ := nI_of ny
        obtain ⟨bb, hbb, eb⟩ := nI_of nu
        obtain ⟨c, hc, ec⟩ := nI_of nr
        subst ea eb ec
        rw [o9, hld_N (by omega) ha hc] at t1
        rw [p9, hld_N (by omega) hbb hc] at t2
        rw [cN_nI ha, cN_nI hbb, cN_nI hc] at kk
        (repeat ((conv => whnf); (first | refine zo0 ?_ | refine zo1 ?_ | refine br_z ?_ | refine br_o ?_ | refine br_zn ?_ | refine br_on ?_ | refine nz2 ?_ | refine nz6 ?_ | refine nz32 ?_ | refine And.intro (by assumption) ?_))); (conv => whnf)
        refine ⟨⟨rfl, rfl, ny, nu, nr, ?_, ?_⟩, ?_⟩
        · rw [nI_clamp ha, nI_clamp hc]; show a + c ≤ 60; omega
        · rw [nI_clamp hbb, nI_clamp hc]; show bb + c ≤ 60; omega
        rw [nI_clamp ha, nI_clamp hbb, nI_clamp hc]
        have kk := kk (am_upA D 42 (va_cpy (D 42) (D 42) a bb c)) (fun q hq => by simp only [am_upA]; rw [if_neg (by omega)])
        (repeat ((conv => whnf); (first | refine zo0 ?_ | refine zo1 ?_ | refine br_z ?_ | refine br_o ?_ | refine br_zn ?_ | refine br_on ?_ | refine nz2 ?_ | refine nz6 ?_ | refine nz32 ?_ | refine And.intro (by assumption) ?_))); (conv => whnf)
        refine kk (ix_sh hi (fun q hq => by simp only [am_upA]; rw [if_neg (by omega)]) (ish_mk (s := 0) hs (fun q h1 h2 => by simp only [am_upA]; rw [if_neg (by omega)]) (fun q hq => ⟨by rw [gCp_c (by decide)], by rw [gCp_c (by decide)], by rw [gCp_c (by decide)], fun j hj => ?_⟩) ⟨?_, ?_, ?_, fun j hj => ?_⟩) (fun q hq => gCp_c (by omega)))
        · unfold gCp; rw [if_pos rfl, if_neg (by omega)]
        · rw [gCp_c (by decide)]; exact x1
        · rw [gCp_c (by decide)]; exact x2
        · rw [gCp_c (by decide)]; exact x3
        · unfold gCp
          rw [if_pos rfl]
          show va_cpy (D 42) (D 42) a bb c j = _
          by_cases e : bb ≤ j ∧ j < bb + c
          · rw [pk_cpy_in e.1 e.2, if_pos (by omega), d4 _ (by omega), show 60 * 0 + (a + (j - bb)) = 60 * 0 + a + (60 * 0 + j - (60 * 0 + bb)) by omega]
          · rw [pk_cpy_out (by omega), if_neg (by omega)]
            exact x4 j hj
      · subst ez
        have hz : (0 : Int32) ≤ 1 ∧ (1 : Int32) ≤ 3 := by decide
        obtain ⟨x1, x2, x3, x4⟩ := hs 1 (by decide)
        obtain ⟨p7, p9, p60⟩ := vok_sh hv (show 1 < 4 by decide)
        have f1 : D 43 1 = v 8 1 := x1
        have f3 : D 43 3 = 1 - v 7 1 := x3
        (repeat ((conv => whnf); (first | refine zo0 ?_ | refine zo1 ?_ | refine br_z ?_ | refine br_o ?_ | refine br_zn ?_ | refine br_on ?_ | refine nz2 ?_ | refine nz6 ?_ | refine nz32 ?_ | refine And.intro (by assumption) ?_))); (conv => whnf)
        rw [d3]
        refine ⟨fun h1 => ?_, fun h1 => ?_⟩
        · have e7 : v 7 0 = 0 := by
            rcases o7 with q | q
            · exact q
            · rw [q] at h1; exact absurd (by decide) h1
          have kk := hK (am_up D 0 16 1) L (fc_up (by decide) fc_rf)
          unfold qCopy gCopy at kk
          rw [if_pos hx, if_pos hx, if_pos hz, if_pos hz, cN_0, cN_1, if_pos e7, if_pos e7] at kk
          (repeat ((conv => whnf); (first | refine zo0 ?_ | refine zo1 ?_ | refine br_z ?_ | refine br_o ?_ | refine br_zn ?_ | refine br_on ?_ | refine nz2 ?_ | refine nz6 ?_ | refine nz32 ?_ | refine And.intro (by assumption) ?_))); (conv => whnf)
          exact kk (ix_find hi)
        have e7 : ¬ v 7 0 = 0 := fun q => by rw [q] at h1; exact absurd h1 (by decide)
        (repeat ((conv => whnf); (first | refine zo0 ?_ | refine zo1 ?_ | refine br_z ?_ | refine br_o ?_ | refine br_zn ?_ | refine br_on ?_ | refine nz2 ?_ | refine nz6 ?_ | refine nz32 ?_ | refine And.intro (by assumption) ?_))); (conv => whnf)
        rw [f3]
        refine ⟨fun h2 => ?_, fun h2 => ?_⟩
        rotate_left
        · have g7 : v 7 1 = 0 := by
            rcases p7 with q | q
            · exact q
            · rw [q] at h2; exact absurd (by decide) h2
          have kk := hK (am_up D 0 16 1) L (fc_up (by decide) fc_rf)
          unfold qCopy gCopy at kk
          rw [if_pos hx, if_pos hx, if_pos hz, if_pos hz, cN_0, cN_1, if_neg e7, if_neg e7, if_pos g7, if_pos g7] at kk
          (repeat ((conv => whnf); (first | refine zo0 ?_ | refine zo1 ?_ | refine br_z ?_ | refine br_o ?_ | refine br_zn ?_ | refine br_on ?_ | refine nz2 ?_ | refine nz6 ?_ | refine nz32 ?_ | refine And.intro (by assumption) ?_))); (conv => whnf)
          exact kk (ix_find hi)
        have g7 : ¬ v 7 1 = 0 := fun q => by rw [q] at h2; exact absurd h2 (by decide)
        (repeat ((conv => whnf); (first | refine zo0 ?_ | refine zo1 ?_ | refine br_z ?_ | refine br_o ?_ | refine br_zn ?_ | refine br_on ?_ | refine nz2 ?_ | refine nz6 ?_ | refine nz32 ?_ | refine And.intro (by assumption) ?_))); (conv => whnf)
        rw [d1, f1]
        refine ⟨fun h3 => ?_, fun h3 => ?_⟩
        rotate_left
        · have kk := hK (am_up D 0 16 4) L (fc_up (by decide) fc_rf)
          unfold qCopy gCopy at kk
          rw [if_pos hx, if_pos hx, if_pos hz, if_pos hz, cN_0, cN_1, if_neg e7, if_neg e7, if_neg g7, if_neg g7, if_neg h3, if_neg h3] at kk
          (repeat ((conv => whnf); (first | refine zo0 ?_ | refine zo1 ?_ | refine br_z ?_ | refine br_o ?_ | refine br_zn ?_ | refine br_on ?_ | refine nz2 ?_ | refine nz6 ?_ | refine nz32 ?_ | refine And.intro (by assumption) ?_))); (conv => whnf)
          exact kk (ix_find hi)
        have kbad : ¬ (hld (v 9 0) y r = true ∧ hld (v 9 1) u r = true) → K (some (.int (-12))) (am_up D 0 16 2) L := fun q => by
          have kk := hK (am_up D 0 16 2) L (fc_up (by decide) fc_rf)
          unfold qCopy gCopy at kk
          rw [if_pos hx, if_pos hx, if_pos hz, if_pos hz, cN_0, cN_1, if_neg e7, if_neg e7, if_neg g7, if_neg g7, if_pos h3, if_pos h3, if_neg q, if_neg q] at kk
          exact kk (ix_find hi)
        have kgood : (hld (v 9 0) y r = true ∧ hld (v 9 1) u r = true) → ∀ D', fc D D' → ix D' (gCp v 0 (cN y) 1 (cN u) (cN r)) → K (some (.int 1)) D' L := fun q D' f => by
          have kk := hK D' L f
          unfold qCopy gCopy at kk
          rw [if_pos hx, if_pos hx, if_pos hz, if_pos hz, cN_0, cN_1, if_neg e7, if_neg e7, if_neg g7, if_neg g7, if_pos h3, if_pos h3, if_pos q, if_pos q] at kk
          exact kk
        (repeat ((conv => whnf); (first | refine zo0 ?_ | refine zo1 ?_ | refine br_z ?_ | refine br_o ?_ | refine br_zn ?_ | refine br_on ?_ | refine nz2 ?_ | refine nz6 ?_ | refine nz32 ?_ | refine And.intro (by assumption) ?_))); (conv => whnf)
        refine ⟨v, 0, hv, hs, Or.inl ⟨rfl, rfl⟩, fun r1 hr1 => ?_⟩
        rcases hr1 with ⟨t1, rfl⟩ | ⟨t1, rfl⟩
        rotate_left
        · have kk := kbad (fun q => by rw [t1] at q; exact absurd q.1 (by decide))
          (repeat ((conv => whnf); (first | refine zo0 ?_ | refine zo1 ?_ | refine br_z ?_ | refine br_o ?_ | refine br_zn ?_ | refine br_on ?_ | refine nz2 ?_ | refine nz6 ?_ | refine nz32 ?_ | refine And.intro (by assumption) ?_))); (conv => whnf)
          exact kk
        (repeat ((conv => whnf); (first | refine zo0 ?_ | refine zo1 ?_ | refine br_z ?_ | refine br_o ?_ | refine br_zn ?_ | refine br_on ?_ | refine nz2 ?_ | refine nz6 ?_ | refine nz32 ?_ | refine And.intro (by assumption) ?_))); (conv => whnf)
        refine ⟨v, 1, hv, hs, Or.inr (Or.inl ⟨rfl, rfl⟩), fun r2 hr2 => ?_⟩
        rcases hr2 with ⟨t2, rfl⟩ | ⟨t2, rfl⟩
        rotate_left
        · have kk := kbad (fun q => by rw [t2] at q; exact absurd q.2 (by decide))
          (repeat ((conv => whnf); (first | refine zo0 ?_ | refine zo1 ?_ | refine br_z ?_ | refine br_o ?_ | refine br_zn ?_ | refine br_on ?_ | refine nz2 ?_ | refine nz6 ?_ | refine nz32 ?_ | refine And.intro (by assumption) ?_))); (conv => whnf)
          exact kk
        have kk := kgood ⟨t1, t2⟩
        have ny : ¬ y < 0 := fun q => by rw [hld_i q] at t1; exact absurd t1 (by decide)
        have nu : ¬ u < 0 := fun q => by rw [hld_i q] at t2; exact absurd t2 (by decide)
        have nr : ¬ r < 0 := fun q => by rw [hld_n q] at t1; exact absurd t1 (by decide)
        obtain ⟨a, ha, ea⟩ := nI_of ny
        obtain ⟨bb, hbb, eb⟩ := nI_of nu
        obtain ⟨c, hc, ec⟩ := nI_of nr
        subst ea eb ec
        rw [o9, hld_N (by omega) ha hc] at t1
        rw [p9, hld_N (by omega) hbb hc] at t2
        rw [cN_nI ha, cN_nI hbb, cN_nI hc] at kk
        (repeat ((conv => whnf); (first | refine zo0 ?_ | refine zo1 ?_ | refine br_z ?_ | refine br_o ?_ | refine br_zn ?_ | refine br_on ?_ | refine nz2 ?_ | refine nz6 ?_ | refine nz32 ?_ | refine And.intro (by assumption) ?_))); (conv => whnf)
        refine ⟨⟨rfl, rfl, ny, nu, nr, ?_, ?_⟩, ?_⟩
        · rw [nI_clamp ha, nI_clamp hc]; show a + c ≤ 60; omega
        · rw [nI_clamp hbb, nI_clamp hc]; show bb + c ≤ 60; omega
        rw [nI_clamp ha, nI_clamp hbb, nI_clamp hc]
        have kk := kk (am_upA D 44 (va_cpy (D 42) (D 44) a bb c)) (fun q hq => by simp only [am_upA]; rw [if_neg (by omega)])
        (repeat ((conv => whnf); (first | refine zo0 ?_ | refine zo1 ?_ | refine br_z ?_ | refine br_o ?_ | refine br_zn ?_ | refine br_on ?_ | refine nz2 ?_ | refine nz6 ?_ | refine nz32 ?_ | refine And.intro (by assumption) ?_))); (conv => whnf)
        refine kk (ix_sh hi (fun q hq => by simp only [am_upA]; rw [if_neg (by omega)]) (ish_mk (s := 1) hs (fun q h1 h2 => by simp only [am_upA]; rw [if_neg (by omega)]) (fun q hq => ⟨by rw [gCp_c (by decide)], by rw [gCp_c (by decide)], by rw [gCp_c (by decide)], fun j hj => ?_⟩) ⟨?_, ?_, ?_, fun j hj => ?_⟩) (fun q hq => gCp_c (by omega)))
        · unfold gCp; rw [if_pos rfl, if_neg (by omega)]
        · rw [gCp_c (by decide)]; exact x1
        · rw [gCp_c (by decide)]; exact x2
        · rw [gCp_c (by decide)]; exact x3
        · unfold gCp
          rw [if_pos rfl]
          show va_cpy (D 42) (D 44) a bb c j = _
          by_cases e : bb ≤ j ∧ j < bb + c
          · rw [pk_cpy_in e.1 e.2, if_pos (by omega), d4 _ (by omega), show 60 * 0 + (a + (j - bb)) = 60 * 0 + a + (60 * 1 + j - (60 * 1 + bb)) by omega]
          · rw [pk_cpy_out (by omega), if_neg (by omega)]
            exact x4 j hj
      · subst ez
        have hz : (0 : Int32) ≤ 2 ∧ (2 : Int32) ≤ 3 := by decide
        obtain ⟨x1, x2, x3, x4⟩ := hs 2 (by decide)
        obtain ⟨p7, p9, p60⟩ := vok_sh hv (show 2 < 4 by decide)
        have f1 : D 45 1 = v 8 2 := x1
        have f3 : D 45 3 = 1 - v 7 2 := x3
        (repeat ((conv => whnf); (first | refine zo0 ?_ | refine zo1 ?_ | refine br_z ?_ | refine br_o ?_ | refine br_zn ?_ | refine br_on ?_ | refine nz2 ?_ | refine nz6 ?_ | refine nz32 ?_ | refine And.intro (by assumption) ?_))); (conv => whnf)
        rw [d3]
        refine ⟨fun h1 => ?_, fun h1 => ?_⟩
        · have e7 : v 7 0 = 0 := by
            rcases o7 with q | q
            · exact q
            · rw [q] at h1; exact absurd (by decide) h1
          have kk := hK (am_up D 0 16 1) L (fc_up (by decide) fc_rf)
          unfold qCopy gCopy at kk
          rw [if_pos hx, if_pos hx, if_pos hz, if_pos hz, cN_0, cN_2, if_pos e7, if_pos e7] at kk
          (repeat ((conv => whnf); (first | refine zo0 ?_ | refine zo1 ?_ | refine br_z ?_ | refine br_o ?_ | refine br_zn ?_ | refine br_on ?_ | refine nz2 ?_ | refine nz6 ?_ | refine nz32 ?_ | refine And.intro (by assumption) ?_))); (conv => whnf)
          exact kk (ix_find hi)
        have e7 : ¬ v 7 0 = 0 := fun q => by rw [q] at h1; exact absurd h1 (by decide)
        (repeat ((conv => whnf); (first | refine zo0 ?_ | refine zo1 ?_ | refine br_z ?_ | refine br_o ?_ | refine br_zn ?_ | refine br_on ?_ | refine nz2 ?_ | refine nz6 ?_ | refine nz32 ?_ | refine And.intro (by assumption) ?_))); (conv => whnf)
        rw [f3]
        refine ⟨fun h2 => ?_, fun h2 => ?_⟩
        rotate_left
        · have g7 : v 7 2 = 0 := by
            rcases p7 with q | q
            · exact q
            · rw [q] at h2; exact absurd (by decide) h2
          have kk := hK (am_up D 0 16 1) L (fc_up (by decide) fc_rf)
          unfold qCopy gCopy at kk
          rw [if_pos hx, if_pos hx, if_pos hz, if_pos hz, cN_0, cN_2, if_neg e7, if_neg e7, if_pos g7, if_pos g7] at kk
          (repeat ((conv => whnf); (first | refine zo0 ?_ | refine zo1 ?_ | refine br_z ?_ | refine br_o ?_ | refine br_zn ?_ | refine br_on ?_ | refine nz2 ?_ | refine nz6 ?_ | refine nz32 ?_ | refine And.intro (by assumption) ?_))); (conv => whnf)
          exact kk (ix_find hi)
        have g7 : ¬ v 7 2 = 0 := fun q => by rw [q] at h2; exact absurd h2 (by decide)
        (repeat ((conv => whnf); (first | refine zo0 ?_ | refine zo1 ?_ | refine br_z ?_ | refine br_o ?_ | refine br_zn ?_ | refine br_on ?_ | refine nz2 ?_ | refine nz6 ?_ | refine nz32 ?_ | refine And.intro (by assumption) ?_))); (conv => whnf)
        rw [d1, f1]
        refine ⟨fun h3 => ?_, fun h3 => ?_⟩
        rotate_left
        · have kk := hK (am_up D 0 16 4) L (fc_up (by decide) fc_rf)
          unfold qCopy gCopy at kk
          rw [if_pos hx, if_pos hx, if_pos hz, if_pos hz, cN_0, cN_2, if_neg e7, if_neg e7, if_neg g7, if_neg g7, if_neg h3, if_neg h3] at kk
          (repeat ((conv => whnf); (first | refine zo0 ?_ | refine zo1 ?_ | refine br_z ?_ | refine br_o ?_ | refine br_zn ?_ | refine br_on ?_ | refine nz2 ?_ | refine nz6 ?_ | refine nz32 ?_ | refine And.intro (by assumption) ?_))); (conv => whnf)
          exact kk (ix_find hi)
        have kbad : ¬ (hld (v 9 0) y r = true ∧ hld (v 9 2) u r = true) → K (some (.int (-12))) (am_up D 0 16 2) L := fun q => by
          have kk := hK (am_up D 0 16 2) L (fc_up (by decide) fc_rf)
          unfold qCopy gCopy at kk
          rw [if_pos hx, if_pos hx, if_pos hz, if_pos hz, cN_0, cN_2, if_neg e7, if_neg e7, if_neg g7, if_neg g7, if_pos h3, if_pos h3, if_neg q, if_neg q] at kk
          exact kk (ix_find hi)
        have kgood : (hld (v 9 0) y r = true ∧ hld (v 9 2) u r = true) → ∀ D', fc D D' → ix D' (gCp v 0 (cN y) 2 (cN u) (cN r)) → K (some (.int 1)) D' L := fun q D' f => by
          have kk := hK D' L f
          unfold qCopy gCopy at kk
          rw [if_pos hx, if_pos hx, if_pos hz, if_pos hz, cN_0, cN_2, if_neg e7, if_neg e7, if_neg g7, if_neg g7, if_pos h3, if_pos h3, if_pos q, if_pos q] at kk
          exact kk
        (repeat ((conv => whnf); (first | refine zo0 ?_ | refine zo1 ?_ | refine br_z ?_ | refine br_o ?_ | refine br_zn ?_ | refine br_on ?_ | refine nz2 ?_ | refine nz6 ?_ | refine nz32 ?_ | refine And.intro (by assumption) ?_))); (conv => whnf)
        refine ⟨v, 0, hv, hs, Or.inl ⟨rfl, rfl⟩, fun r1 hr1 => ?_⟩
        rcases hr1 with ⟨t1, rfl⟩ | ⟨t1, rfl⟩
        rotate_left
        · have kk := kbad (fun q => by rw [t1] at q; exact absurd q.1 (by decide))
          (repeat ((conv => whnf); (first | refine zo0 ?_ | refine zo1 ?_ | refine br_z ?_ | refine br_o ?_ | refine br_zn ?_ | refine br_on ?_ | refine nz2 ?_ | refine nz6 ?_ | refine nz32 ?_ | refine And.intro (by assumption) ?_))); (conv => whnf)
          exact kk
        (repeat ((conv => whnf); (first | refine zo0 ?_ | refine zo1 ?_ | refine br_z ?_ | refine br_o ?_ | refine br_zn ?_ | refine br_on ?_ | refine nz2 ?_ | refine nz6 ?_ | refine nz32 ?_ | refine And.intro (by assumption) ?_))); (conv => whnf)
        refine ⟨v, 2, hv, hs, Or.inr (Or.inr (Or.inl ⟨rfl, rfl⟩)), fun r2 hr2 => ?_⟩
        rcases hr2 with ⟨t2, rfl⟩ | ⟨t2, rfl⟩
        rotate_left
        · have kk := kbad (fun q => by rw [t2] at q; exact absurd q.2 (by decide))
          (repeat ((conv => whnf); (first | refine zo0 ?_ | refine zo1 ?_ | refine br_z ?_ | refine br_o ?_ | refine br_zn ?_ | refine br_on ?_ | refine nz2 ?_ | refine nz6 ?_ | refine nz32 ?_ | refine And.intro (by assumption) ?_))); (conv => whnf)
          exact kk
        have kk := kgood ⟨t1, t2⟩
        have ny : ¬ y < 0 := fun q => by rw [hld_i q] at t1; exact absurd t1 (by decide)
        have nu : ¬ u < 0 := fun q => by rw [hld_i q] at t2; exact absurd t2 (by decide)
        have nr : ¬ r < 0 := fun q => by rw [hld_n q] at t1; exact absurd t1 (by decide)
        obtain ⟨a, ha, ea⟩ := nI_of ny
        obtain ⟨bb, hbb, eb⟩ := nI_of nu
        obtain ⟨c, hc, ec⟩ := nI_of nr
        subst ea eb ec
        rw [o9, hld_N (by omega) ha hc] at t1
        rw [p9, hld_N (by omega) hbb hc] at t2
        rw [cN_nI ha, cN_nI hbb, cN_nI hc] at kk
        (repeat ((conv => whnf); (first | refine zo0 ?_ | refine zo1 ?_ | refine br_z ?_ | refine br_o ?_ | refine br_zn ?_ | refine br_on ?_ | refine nz2 ?_ | refine nz6 ?_ | refine nz32 ?_ | refine And.intro (by assumption) ?_))); (conv => whnf)
        refine ⟨⟨rfl, rfl, ny, nu, nr, ?_, ?_⟩, ?_⟩
        · rw [nI_clamp ha, nI_clamp hc]; show a + c ≤ 60; omega
        · rw [nI_clamp hbb, nI_clamp hc]; show bb + c ≤ 60; omega
        rw [nI_clamp ha, nI_clamp hbb, nI_clamp hc]
        have kk := kk (am_upA D 46 (va_cpy (D 42) (D 46) a bb c)) (fun q hq => by simp only [am_upA]; rw [if_neg (by omega)])
        (repeat ((conv => whnf); (first | refine zo0 ?_ | refine zo1 ?_ | refine br_z ?_ | refine br_o ?_ | refine br_zn ?_ | refine br_on ?_ | refine nz2 ?_ | refine nz6 ?_ | refine nz32 ?_ | refine And.intro (by assumption) ?_))); (conv => whnf)
        refine kk (ix_sh hi (fun q hq => by simp only [am_upA]; rw [if_neg (by omega)]) (ish_mk (s := 2) hs (fun q h1 h2 => by simp only [am_upA]; rw [if_neg (by omega)]) (fun q hq => ⟨by rw [gCp_c (by decide)], by rw [gCp_c (by decide)], by rw [gCp_c (by decide)], fun j hj => ?_⟩) ⟨?_, ?_, ?_, fun j hj => ?_⟩) (fun q hq => gCp_c (by omega)))
        · unfold gCp; rw [if_pos rfl, if_neg (by omega)]
        · rw [gCp_c (by decide)]; exact x1
        · rw [gCp_c (by decide)]; exact x2
        · rw [gCp_c (by decide)]; exact x3
        · unfold gCp
          rw [if_pos rfl]
          show va_cpy (D 42) (D 46) a bb c j = _
          by_cases e : bb ≤ j ∧ j < bb + c
          · rw [pk_cpy_in e.1 e.2, if_pos (by omega), d4 _ (by omega), show 60 * 0 + (a + (j - bb)) = 60 * 0 + a + (60 * 2 + j - (60 * 2 + bb)) by omega]
          · rw [pk_cpy_out (by omega), if_neg (by omega)]
            exact x4 j hj
      · subst ez
        have hz : (0 : Int32) ≤ 3 ∧ (3 : Int32) ≤ 3 := by decide
        obtain ⟨x1, x2, x3, x4⟩ := hs 3 (by decide)
        obtain ⟨p7, p9, p60⟩ := vok_sh hv (show 3 < 4 by decide)
        have f1 : D 47 1 = v 8 3 := x1
        have f3 : D 47 3 = 1 - v 7 3 := x3
        (repeat ((conv => whnf); (first | refine zo0 ?_ | refine zo1 ?_ | refine br_z ?_ | refine br_o ?_ | refine br_zn ?_ | refine br_on ?_ | refine nz2 ?_ | refine nz6 ?_ | refine nz32 ?_ | refine And.intro (by assumption) ?_))); (conv => whnf)
        rw [d3]
        refine ⟨fun h1 => ?_, fun h1 => ?_⟩
        · have e7 : v 7 0 = 0 := by
            rcases o7 with q | q
            · exact q
            · rw [q] at h1; exact absurd (by decide) h1
          have kk := hK (am_up D 0 16 1) L (fc_up (by decide) fc_rf)
          unfold qCopy gCopy at kk
          rw [if_pos hx, if_pos hx, if_pos hz, if_pos hz, cN_0, cN_3, if_pos e7, if_pos e7] at kk
          (repeat ((conv => whnf); (first | refine zo0 ?_ | refine zo1 ?_ | refine br_z ?_ | refine br_o ?_ | refine br_zn ?_ | refine br_on ?_ | refine nz2 ?_ | refine nz6 ?_ | refine nz32 ?_ | refine And.intro (by assumption) ?_))); (conv => whnf)
          exact kk (ix_find hi)
        have e7 : ¬ v 7 0 = 0 := fun q => by rw [q] at h1; exact absurd h1 (by decide)
        (repeat ((conv => whnf); (first | refine zo0 ?_ | refine zo1 ?_ | refine br_z ?_ | refine br_o ?_ | refine br_zn ?_ | refine br_on ?_ | refine nz2 ?_ | refine nz6 ?_ | refine nz32 ?_ | refine And.intro (by assumption) ?_))); (conv => whnf)
        rw [f3]
        refine ⟨fun h2 => ?_, fun h2 => ?_⟩
        rotate_left
        · have g7 : v 7 3 = 0 := by
            rcases p7 with q | q
            · exact q
            · rw [q] at h2; exact absurd (by decide) h2
          have kk := hK (am_up D 0 16 1) L (fc_up (by decide) fc_rf)
          unfold qCopy gCopy at kk
          rw [if_pos hx, if_pos hx, if_pos hz, if_pos hz, cN_0, cN_3, if_neg e7, if_neg e7, if_pos g7, if_pos g7] at kk
          (repeat ((conv => whnf); (first | refine zo0 ?_ | refine zo1 ?_ | refine br_z ?_ | refine br_o ?_ | refine br_zn ?_ | refine br_on ?_ | refine nz2 ?_ | refine nz6 ?_ | refine nz32 ?_ | refine And.intro (by assumption) ?_))); (conv => whnf)
          exact kk (ix_find hi)
        have g7 : ¬ v 7 3 = 0 := fun q => by rw [q] at h2; exact absurd h2 (by decide)
        (repeat ((conv => whnf); (first | refine zo0 ?_ | refine zo1 ?_ | refine br_z ?_ | refine br_o ?_ | refine br_zn ?_ | refine br_on ?_ | refine nz2 ?_ | refine nz6 ?_ | refine nz32 ?_ | refine And.intro (by assumption) ?_))); (conv => whnf)
        rw [d1, f1]
        refine ⟨fun h3 => ?_, fun h3 => ?_⟩
        rotate_left
        · have kk := hK (am_up D 0 16 4) L (fc_up (by decide) fc_rf)
          unfold qCopy gCopy at kk
          rw [if_pos hx, if_pos hx, if_pos hz, if_pos hz, cN_0, cN_3, if_neg e7, if_neg e7, if_neg g7, if_neg g7, if_neg h3, if_neg h3] at kk
          (repeat ((conv => whnf); (first | refine zo0 ?_ | refine zo1 ?_ | refine br_z ?_ | refine br_o ?_ | refine br_zn ?_ | refine br_on ?_ | refine nz2 ?_ | refine nz6 ?_ | refine nz32 ?_ | refine And.intro (by assumption) ?_))); (conv => whnf)
          exact kk (ix_find hi)
        have kbad : ¬ (hld (v 9 0) y r = true ∧ hld (v 9 3) u r = true) → K (some (.int (-12))) (am_up D 0 16 2) L := fun q => by
          have kk := hK (am_up D 0 16 2) L (fc_up (by decide) fc_rf)
          unfold qCopy gCopy at kk
          rw [if_pos hx, if_pos hx, if_pos hz, if_pos hz, cN_0, cN_3, if_neg e7, if_neg e7, if_neg g7, if_neg g7, if_pos h3, if_pos h3, if_neg q, if_neg q] at kk
          exact kk (ix_find hi)
        have kgood : (hld (v 9 0) y r = true ∧ hld (v 9 3) u r = true) → ∀ D', fc D D' → ix D' (gCp v 0 (cN y) 3 (cN u) (cN r)) → K (some (.int 1)) D' L := fun q D' f => by
          have kk := hK D' L f
          unfold qCopy gCopy at kk
          rw [if_pos hx, if_pos hx, if_pos hz, if_pos hz, cN_0, cN_3, if_neg e7, if_neg e7, if_neg g7, if_neg g7, if_pos h3, if_pos h3, if_pos q, if_pos q] at kk
          exact kk
        (repeat ((conv => whnf); (first | refine zo0 ?_ | refine zo1 ?_ | refine br_z ?_ | refine br_o ?_ | refine br_zn ?_ | refine br_on ?_ | refine nz2 ?_ | refine nz6 ?_ | refine nz32 ?_ | refine And.intro (by assumption) ?_))); (conv => whnf)
        refine ⟨v, 0, hv, hs, Or.inl ⟨rfl, rfl⟩, fun r1 hr1 => ?_⟩
        rcases hr1 with ⟨t1, rfl⟩ | ⟨t1, rfl⟩
        rotate_left
        · have kk := kbad (fun q => by rw [t1] at q; exact absurd q.1 (by decide))
          (repeat ((conv => whnf); (first | refine zo0 ?_ | refine zo1 ?_ | refine br_z ?_ | refine br_o ?_ | refine br_zn ?_ | refine br_on ?_ | refine nz2 ?_ | refine nz6 ?_ | refine nz32 ?_ | refine And.intro (by assumption) ?_))); (conv => whnf)
          exact kk
        (repeat ((conv => whnf); (first | refine zo0 ?_ | refine zo1 ?_ | refine br_z ?_ | refine br_o ?_ | refine br_zn ?_ | refine br_on ?_ | refine nz2 ?_ | refine nz6 ?_ | refine nz32 ?_ | refine And.intro (by assumption) ?_))); (conv => whnf)
        refine ⟨v, 3, hv, hs, Or.inr (Or.inr (Or.inr ⟨rfl, rfl⟩)), fun r2 hr2 => ?_⟩
        rcases hr2 with ⟨t2, rfl⟩ | ⟨t2, rfl⟩
        rotate_left
        · have kk := kbad (fun q => by rw [t2] at q; exact absurd q.2 (by decide))
          (repeat ((conv => whnf); (first | refine zo0 ?_ | refine zo1 ?_ | refine br_z ?_ | refine br_o ?_ | refine br_zn ?_ | refine br_on ?_ | refine nz2 ?_ | refine nz6 ?_ | refine nz32 ?_ | refine And.intro (by assumption) ?_))); (conv => whnf)
          exact kk
        have kk := kgood ⟨t1, t2⟩
        have ny : ¬ y < 0 := fun q => by rw [hld_i q] at t1; exact absurd t1 (by decide)
        have nu : ¬ u < 0 := fun q => by rw [hld_i q] at t2; exact absurd t2 (by decide)
        have nr : ¬ r < 0 := fun q => by rw [hld_n q] at t1; exact absurd t1 (by decide)
        obtain ⟨a, ha, ea⟩ := nI_of ny
        obtain ⟨bb, hbb, eb⟩ := nI_of nu
        obtain ⟨c, hc, ec⟩ := nI_of nr
        subst ea eb ec
        rw [o9, hld_N (by omega) ha hc] at t1
        rw [p9, hld_N (by omega) hbb hc] at t2
        rw [cN_nI ha, cN_nI hbb, cN_nI hc] at kk
        (repeat ((conv => whnf); (first | refine zo0 ?_ | refine zo1 ?_ | refine br_z ?_ | refine br_o ?_ | refine br_zn ?_ | refine br_on ?_ | refine nz2 ?_ | refine nz6 ?_ | refine nz32 ?_ | refine And.intro (by assumption) ?_))); (conv => whnf)
        refine ⟨⟨rfl, rfl, ny, nu, nr, ?_, ?_⟩, ?_⟩
        · rw [nI_clamp ha, nI_clamp hc]; show a + c ≤ 60; omega
        · rw [nI_clamp hbb, nI_clamp hc]; show bb + c ≤ 60; omega
        rw [nI_clamp ha, nI_clamp hbb, nI_clamp hc]
        have kk := kk (am_upA D 48 (va_cpy (D 42) (D 48) a bb c)) (fun q hq => by simp only [am_upA]; rw [if_neg (by omega)])
        (repeat ((conv => whnf); (first | refine zo0 ?_ | refine zo1 ?_ | refine br_z ?_ | refine br_o ?_ | refine br_zn ?_ | refine br_on ?_ | refine nz2 ?_ | refine nz6 ?_ | refine nz32 ?_ | refine And.intro (by assumption) ?_))); (conv => whnf)
        refine kk (ix_sh hi (fun q hq => by simp only [am_upA]; rw [if_neg (by omega)]) (ish_mk (s := 3) hs (fun q h1 h2 => by simp only [am_upA]; rw [if_neg (by omega)]) (fun q hq => ⟨by rw [gCp_c (by decide)], by rw [gCp_c (by decide)], by rw [gCp_c (by decide)], fun j hj => ?_⟩) ⟨?_, ?_, ?_, fun j hj => ?_⟩) (fun q hq => gCp_c (by omega)))
        · unfold gCp; rw [if_pos rfl, if_neg (by omega)]
        · rw [gCp_c (by decide)]; exact x1
        · rw [gCp_c (by decide)]; exact x2
        · rw [gCp_c (by decide)]; exact x3
        · unfold gCp
          rw [if_pos rfl]
          show va_cpy (D 42) (D 48) a bb c j = _
          by_cases e : bb ≤ j ∧ j < bb + c
          · rw [pk_cpy_in e.1 e.2, if_pos (by omega), d4 _ (by omega), show 60 * 0 + (a + (j - bb)) = 60 * 0 + a + (60 * 3 + j - (60 * 3 + bb)) by omega]
          · rw [pk_cpy_out (by omega), if_neg (by omega)]
            exact x4 j hj
      · have kk := kb (fun q => ez q.2)
        (repeat ((conv => whnf); (first | refine zo0 ?_ | refine zo1 ?_ | refine br_z ?_ | refine br_o ?_ | refine br_zn ?_ | refine br_on ?_ | refine nz2 ?_ | refine nz6 ?_ | refine nz32 ?_ | refine And.intro (by assumption) ?_))); (conv => whnf)
        exact kk
    · subst ex
      have hx : (0 : Int32) ≤ 1 ∧ (1 : Int32) ≤ 3 := by decide
      obtain ⟨w1, w2, w3, w4⟩ := hs 1 (by decide)
      obtain ⟨o7, o9, o60⟩ := vok_sh hv (show 1 < 4 by decide)
      have d1 : D 43 1 = v 8 1 := w1
      have d2 : D 43 2 = nI (vn v 9 1) := w2.trans o9
      have d3 : D 43 3 = 1 - v 7 1 := w3
      have d4 : ∀ i, i < 60 → D 44 i = v 10 (60 * 1 + i) := w4
      (repeat ((conv => whnf); (first | refine zo0 ?_ | refine zo1 ?_ | refine br_z ?_ | refine br_o ?_ | refine br_zn ?_ | refine br_on ?_ | refine nz2 ?_ | refine nz6 ?_ | refine nz32 ?_ | refine And.intro (by assumption) ?_))); (conv => whnf)
      refine ⟨fun ez => ?_, fun ez => ?_, fun ez => ?_, fun ez => ?_, fun ez => ?_⟩
      · subst ez
        have hz : (0 : Int32) ≤ 0 ∧ (0 : Int32) ≤ 3 := by decide
        obtain ⟨x1, x2, x3, x4⟩ := hs 0 (by decide)
        obtain ⟨p7, p9, p60⟩ := vok_sh hv (show 0 < 4 by decide)
        have f1 : D 41 1 = v 8 0 := x1
        have f3 : D 41 3 = 1 - v 7 0 := x3
        (repeat ((conv => whnf); (first | refine zo0 ?_ | refine zo1 ?_ | refine br_z ?_ | refine br_o ?_ | refine br_zn ?_ | refine br_on ?_ | refine nz2 ?_ | refine nz6 ?_ | refine nz32 ?_ | refine And.intro (by assumption) ?_))); (conv => whnf)
        rw [d3]
        refine ⟨fun h1 => ?_, fun h1 => ?_⟩
        · have e7 : v 7 1 = 0 := by
            rcases o7 with q | q
            · exact q
            · rw [q] at h1; exact absurd (by decide) h1
          have kk := hK (am_up D 0 16 1) L (fc_up (by decide) fc_rf)
          unfold qCopy gCopy at kk
          rw [if_pos hx, if_pos hx, if_pos hz, if_pos hz, cN_1, cN_0, if_pos e7, if_pos e7] at kk
          (repeat ((conv => whnf); (first | refine zo0 ?_ | refine zo1 ?_ | refine br_z ?_ | refine br_o ?_ | refine br_zn ?_ | refine br_on ?_ | refine nz2 ?_ | refine nz6 ?_ | refine nz32 ?_ | refine And.intro (by assumption) ?_))); (conv => whnf)
          exact kk (ix_find hi)
        have e7 : ¬ v 7 1 = 0 := fun q => by rw [q] at h1; exact absurd h1 (by decide)
        (repeat ((conv => whnf); (first | refine zo0 ?_ | refine zo1 ?_ | refine br_z ?_ | refine br_o ?_ | refine br_zn ?_ | refine br_on ?_ | refine nz2 ?_ | refine nz6 ?_ | refine nz32 ?_ | refine And.intro (by assumption) ?_))); (conv => whnf)
        rw [f3]
        refine ⟨fun h2 => ?_, fun h2 => ?_⟩
        rotate_left
        · have g7 : v 7 0 = 0 := by
            rcases p7 with q | q
            · exact q
            · rw [q] at h2; exact absurd (by decide) h2
          have kk := hK (am_up D 0 16 1) L (fc_up (by decide) fc_rf)
          unfold qCopy gCopy at kk
          rw [if_pos hx, if_pos hx, if_pos hz, if_pos hz, cN_1, cN_0, if_neg e7, if_neg e7, if_pos g7, if_pos g7] at kk
          (repeat ((conv => whnf); (first | refine zo0 ?_ | refine zo1 ?_ | refine br_z ?_ | refine br_o ?_ | refine br_zn ?_ | refine br_on ?_ | refine nz2 ?_ | refine nz6 ?_ | refine nz32 ?_ | refine And.intro (by assumption) ?_))); (conv => whnf)
          exact kk (ix_find hi)
        have g7 : ¬ v 7 0 = 0 := fun q => by rw [q] at h2; exact absurd h2 (by decide)
        (repeat ((conv => whnf); (first | refine zo0 ?_ | refine zo1 ?_ | refine br_z ?_ | refine br_o ?_ | refine br_zn ?_ | refine br_on ?_ | refine nz2 ?_ | refine nz6 ?_ | refine nz32 ?_ | refine And.intro (by assumption) ?_))); (conv => whnf)
        rw [d1, f1]
        refine ⟨fun h3 => ?_, fun h3 => ?_⟩
        rotate_left
        · have kk := hK (am_up D 0 16 4) L (fc_up (by decide) fc_rf)
          unfold qCopy gCopy at kk
          rw [if_pos hx, if_pos hx, if_pos hz, if_pos hz, cN_1, cN_0, if_neg e7, if_neg e7, if_neg g7, if_neg g7, if_neg h3, if_neg h3] at kk
          (repeat ((conv => whnf); (first | refine zo0 ?_ | refine zo1 ?_ | refine br_z ?_ | refine br_o ?_ | refine br_zn ?_ | refine br_on ?_ | refine nz2 ?_ | refine nz6 ?_ | refine nz32 ?_ | refine And.intro (by assumption) ?_))); (conv => whnf)
          exact kk (ix_find hi)
        have kbad : ¬ (hld (v 9 1) y r = true ∧ hld (v 9 0) u r = true) → K (some (.int (-12))) (am_up D 0 16 2) L := fun q => by
          have kk := hK (am_up D 0 16 2) L (fc_up (by decide) fc_rf)
          unfold qCopy gCopy at kk
          rw [if_pos hx, if_pos hx, if_pos hz, if_pos hz, cN_1, cN_0, if_neg e7, if_neg e7, if_neg g7, if_neg g7, if_pos h3, if_pos h3, if_neg q, if_neg q] at kk
          exact kk (ix_find hi)
        have kgood : (hld (v 9 1) y r = true ∧ hld (v 9 0) u r = true) → ∀ D', fc D D' → ix D' (gCp v 1 (cN y) 0 (cN u) (cN r)) → K (some (.int 1)) D' L := fun q D' f => by
          have kk := hK D' L f
          unfold qCopy gCopy at kk
          rw [if_pos hx, if_pos hx, if_pos hz, if_pos hz, cN_1, cN_0, if_neg e7, if_neg e7, if_neg g7, if_neg g7, if_pos h3, if_pos h3, if_pos q, if_pos q] at kk
          exact kk
        (repeat ((conv => whnf); (first | refine zo0 ?_ | refine zo1 ?_ | refine br_z ?_ | refine br_o ?_ | refine br_zn ?_ | refine br_on ?_ | refine nz2 ?_ | refine nz6 ?_ | refine nz32 ?_ | refine And.intro (by assumption) ?_))); (conv => whnf)
        refine ⟨v, 1, hv, hs, Or.inr (Or.inl ⟨rfl, rfl⟩), fun r1 hr1 => ?_⟩
        rcases hr1 with ⟨t1, rfl⟩ | ⟨t1, rfl⟩
        rotate_left
        · have kk := kbad (fun q => by rw [t1] at q; exact absurd q.1 (by decide))
          (repeat ((conv => whnf); (first | refine zo0 ?_ | refine zo1 ?_ | refine br_z ?_ | refine br_o ?_ | refine br_zn ?_ | refine br_on ?_ | refine nz2 ?_ | refine nz6 ?_ | refine nz32 ?_ | refine And.intro (by assumption) ?_))); (conv => whnf)
          exact kk
        (repeat ((conv => whnf); (first | refine zo0 ?_ | refine zo1 ?_ | refine br_z ?_ | refine br_o ?_ | refine br_zn ?_ | refine br_on ?_ | refine nz2 ?_ | refine nz6 ?_ | refine nz32 ?_ | refine And.intro (by assumption) ?_))); (conv => whnf)
        refine ⟨v, 0, hv, hs, Or.inl ⟨rfl, rfl⟩, fun r2 hr2 => ?_⟩
        rcases hr2 with ⟨t2, rfl⟩ | ⟨t2, rfl⟩
        rotate_left
        · have kk := kbad (fun q => by rw [t2] at q; exact absurd q.2 (by decide))
          (repeat ((conv => whnf); (first | refine zo0 ?_ | refine zo1 ?_ | refine br_z ?_ | refine br_o ?_ | refine br_zn ?_ | refine br_on ?_ | refine nz2 ?_ | refine nz6 ?_ | refine nz32 ?_ | refine And.intro (by assumption) ?_))); (conv => whnf)
          exact kk
        have kk := kgood ⟨t1, t2⟩
        have ny : ¬ y < 0 := fun q => by rw [hld_i q] at t1; exact absurd t1 (by decide)
        have nu : ¬ u < 0 := fun q => by rw [hld_i q] at t2; exact absurd t2 (by decide)
        have nr : ¬ r < 0 := fun q => by rw [hld_n q] at t1; exact absurd t1 (by decide)
        obtain ⟨a, ha, ea⟩ := nI_of ny
        obtain ⟨bb, hbb, eb⟩ := nI_of nu
        obtain ⟨c, hc, ec⟩ := nI_of nr
        subst ea eb ec
        rw [o9, hld_N (by omega) ha hc] at t1
        rw [p9, hld_N (by omega) hbb hc] at t2
        rw [cN_nI ha, cN_nI hbb, cN_nI hc] at kk
        (repeat ((conv => whnf); (first | refine zo0 ?_ | refine zo1 ?_ | refine br_z ?_ | refine br_o ?_ | refine br_zn ?_ | refine br_on ?_ | refine nz2 ?_ | refine nz6 ?_ | refine nz32 ?_ | refine And.intro (by assumption) ?_))); (conv => whnf)
        refine ⟨⟨rfl, rfl, ny, nu, nr, ?_, ?_⟩, ?_⟩
        · rw [nI_clamp ha, nI_clamp hc]; show a + c ≤ 60; omega
        · rw [nI_clamp hbb, nI_clamp hc]; show bb + c ≤ 60; omega
        rw [nI_clamp ha, nI_clamp hbb, nI_clamp hc]
        have kk := kk (am_upA D 42 (va_cpy (D 44) (D 42) a bb c)) (fun q hq => by simp only [am_upA]; rw [if_neg (by omega)])
        (repeat ((conv => whnf); (first | refine zo0 ?_ | refine zo1 ?_ | refine br_z ?_ | refine br_o ?_ | refine br_zn ?_ | refine br_on ?_ | refine nz2 ?_ | refine nz6 ?_ | refine nz32 ?_ | refine And.intro (by assumption) ?_))); (conv => whnf)
        refine kk (ix_sh hi (fun q hq => by simp only [am_upA]; rw [if_neg (by omega)]) (ish_mk (s := 0) hs (fun q h1 h2 => by simp only [am_upA]; rw [if_neg (by omega)]) (fun q hq => ⟨by rw [gCp_c (by decide)], by rw [gCp_c (by decide)], by rw [gCp_c (by decide)], fun j hj => ?_⟩) ⟨?_, ?_, ?_, fun j hj => ?_⟩) (fun q hq => gCp_c (by omega)))
        · unfold gCp; rw [if_pos rfl, if_neg (by omega)]
        · rw [gCp_c (by decide)]; exact x1
        · rw [gCp_c (by decide)]; exact x2
        · rw [gCp_c (by decide)]; exact x3
        · unfold gCp
          rw [if_pos rfl]
          show va_cpy (D 44) (D 42) a bb c j = _
          by_cases e : bb ≤ j ∧ j < bb + c
          · rw [pk_cpy_in e.1 e.2, if_pos (by omega), d4 _ (by omega), show 60 * 1 + (a + (j - bb)) = 60 * 1 + a + (60 * 0 + j - (60 * 0 + bb)) by omega]
          · rw [pk_cpy_out (by omega), if_neg (by omega)]
            exact x4 j hj
      · subst ez
        have hz : (0 : Int32) ≤ 1 ∧ (1 : Int32) ≤ 3 := by decide
        obtain ⟨x1, x2, x3, x4⟩ := hs 1 (by decide)
        obtain ⟨p7, p9, p60⟩ := vok_sh hv (show 1 < 4 by decide)
        have f1 : D 43 1 = v 8 1 := x1
        have f3 : D 43 3 = 1 - v 7 1 := x3
        (repeat ((conv => whnf); (first | refine zo0 ?_ | refine zo1 ?_ | refine br_z ?_ | refine br_o ?_ | refine br_zn ?_ | refine br_on ?_ | refine nz2 ?_ | refine nz6 ?_ | refine nz32 ?_ | refine And.intro (by assumption) ?_))); (conv => whnf)
        rw [d3]
        refine ⟨fun h1 => ?_, fun h1 => ?_⟩
        · have e7 : v 7 1 = 0 := by
            rcases o7 with q | q
            · exact q
            · rw [q] at h1; exact absurd (by decide) h1
          have kk := hK (am_up D 0 16 1) L (fc_up (by decide) fc_rf)
          unfold qCopy gCopy at kk
          rw [if_pos hx, if_pos hx, if_pos hz, if_pos hz, cN_1, if_pos e7, if_pos e7] at kk
          (repeat ((conv => whnf); (first | refine zo0 ?_ | refine zo1 ?_ | refine br_z ?_ | refine br_o ?_ | refine br_zn ?_ | refine br_on ?_ | refine nz2 ?_ | refine nz6 ?_ | refine nz32 ?_ | refine And.intro (by assumption) ?_))); (conv => whnf)
          exact kk (ix_find hi)
        have e7 : ¬ v 7 1 = 0 := fun q => by rw [q] at h1; exact absurd h1 (by decide)
        (repeat ((conv => whnf); (first | refine zo0 ?_ | refine zo1 ?_ | refine br_z ?_ | refine br_o ?_ | refine br_zn ?_ | refine br_on ?_ | refine nz2 ?_ | refine nz6 ?_ | refine nz32 ?_ | refine And.intro (by assumption) ?_))); (conv => whnf)
        rw [f3]
        refine ⟨fun h2 => ?_, fun h2 => ?_⟩
        rotate_left
        · have g7 : v 7 1 = 0 := by
            rcases p7 with q | q
            · exact q
            · rw [q] at h2; exact absurd (by decide) h2
          exact absurd g7 e7
        have g7 : ¬ v 7 1 = 0 := fun q => by rw [q] at h2; exact absurd h2 (by decide)
        (repeat ((conv => whnf); (first | refine zo0 ?_ | refine zo1 ?_ | refine br_z ?_ | refine br_o ?_ | refine br_zn ?_ | refine br_on ?_ | refine nz2 ?_ | refine nz6 ?_ | refine nz32 ?_ | refine And.intro (by assumption) ?_))); (conv => whnf)
        rw [d1]
        refine ⟨fun h3 => ?_, fun h3 => ?_⟩
        rotate_left
        · have kk := hK (am_up D 0 16 4) L (fc_up (by decide) fc_rf)
          unfold qCopy gCopy at kk
          rw [if_pos hx, if_pos hx, if_pos hz, if_pos hz, cN_1, if_neg e7, if_neg e7, if_neg g7, if_neg g7, if_neg h3, if_neg h3] at kk
          (repeat ((conv => whnf); (first | refine zo0 ?_ | refine zo1 ?_ | refine br_z ?_ | refine br_o ?_ | refine br_zn ?_ | refine br_on ?_ | refine nz2 ?_ | refine nz6 ?_ | refine nz32 ?_ | refine And.intro (by assumption) ?_))); (conv => whnf)
          exact kk (ix_find hi)
        have kbad : ¬ (hld (v 9 1) y r = true ∧ hld (v 9 1) u r = true) → K (some (.int (-12))) (am_up D 0 16 2) L := fun q => by
          have kk := hK (am_up D 0 16 2) L (fc_up (by decide) fc_rf)
          unfold qCopy gCopy at kk
          rw [if_pos hx, if_pos hx, if_pos hz, if_pos hz, cN_1, if_neg e7, if_neg e7, if_neg g7, if_neg g7, if_pos h3, if_pos h3, if_neg q, if_neg q] at kk
          exact kk (ix_find hi)
        have kgood : (hld (v 9 1) y r = true ∧ hld (v 9 1) u r = true) → ∀ D', fc D D' → ix D' (gCp v 1 (cN y) 1 (cN u) (cN r)) → K (some (.int 1)) D' L := fun q D' f => by
          have kk := hK D' L f
          unfold qCopy gCopy at kk
          rw [if_pos hx, if_pos hx, if_pos hz, if_pos hz, cN_1, if_neg e7, if_neg e7, if_neg g7, if_neg g7, if_pos h3, if_pos h3, if_pos q, if_pos q] at kk
          exact kk
        (repeat ((conv => whnf); (first | refine zo0 ?_ | refine zo1 ?_ | refine br_z ?_ | refine br_o ?_ | refine br_zn ?_ | refine br_on ?_ | refine nz2 ?_ | refine nz6 ?_ | refine nz32 ?_ | refine And.intro (by assumption) ?_))); (conv => whnf)
        refine ⟨v, 1, hv, hs, Or.inr (Or.inl ⟨rfl, rfl⟩), fun r1 hr1 => ?_⟩
        rcases hr1 with ⟨t1, rfl⟩ | ⟨t1, rfl⟩
        rotate_left
        · have kk := kbad (fun q => by rw [t1] at q; exact absurd q.1 (by decide))
          (repeat ((conv => whnf); (first | refine zo0 ?_ | refine zo1 ?_ | refine br_z ?_ | refine br_o ?_ | refine br_zn ?_ | refine br_on ?_ | refine nz2 ?_ | refine nz6 ?_ | refine nz32 ?_ | refine And.intro (by assumption) ?_))); (conv => whnf)
          exact kk
        (repeat ((conv => whnf); (first | refine zo0 ?_ | refine zo1 ?_ | refine br_z ?_ | refine br_o ?_ | refine br_zn ?_ | refine br_on ?_ | refine nz2 ?_ | refine nz6 ?_ | refine nz32 ?_ | refine And.intro (by assumption) ?_))); (conv => whnf)
        refine ⟨v, 1, hv, hs, Or.inr (Or.inl ⟨rfl, rfl⟩), fun r2 hr2 => ?_⟩
        rcases hr2 with ⟨t2, rfl⟩ | ⟨t2, rfl⟩
        rotate_left
        · have kk := kbad (fun q => by rw [t2] at q; exact absurd q.2 (by decide))
          (repeat ((conv => whnf); (first | refine zo0 ?_ | refine zo1 ?_ | refine br_z ?_ | refine br_o ?_ | refine br_zn ?_ | refine br_on ?_ | refine nz2 ?_ | refine nz6 ?_ | refine nz32 ?_ | refine And.intro (by assumption) ?_))); (conv => whnf)
          exact kk
        have kk := kgood ⟨t1, t2⟩
        have ny : ¬ y < 0 := fun q => by rw [hld_i q] at t1; exact absurd t1 (by decide)
        have nu : ¬ u < 0 := fun q => by rw [hld_i q] at t2; exact absurd t2 (by decide)
        have nr : ¬ r < 0 := fun q => by rw [hld_n q] at t1; exact absurd t1 (by decide)
        obtain ⟨a, ha, ea⟩ := nI_of ny
        obtain ⟨bb, hbb, eb⟩ := nI_of nu
        obtain ⟨c, hc, ec⟩ := nI_of nr
        subst ea eb ec
        rw [o9, hld_N (by omega) ha hc] at t1
        rw [p9, hld_N (by omega) hbb hc] at t2
        rw [cN_nI ha, cN_nI hbb, cN_nI hc] at kk
        (repeat ((conv => whnf); (first | refine zo0 ?_ | refine zo1 ?_ | refine br_z ?_ | refine br_o ?_ | refine br_zn ?_ | refine br_on ?_ | refine nz2 ?_ | refine nz6 ?_ | refine nz32 ?_ | refine And.intro (by assumption) ?_))); (conv => whnf)
        refine ⟨⟨rfl, rfl, ny, nu, nr, ?_, ?_⟩, ?_⟩
        · rw [nI_clamp ha, nI_clamp hc]; show a + c ≤ 60; omega
        · rw [nI_clamp hbb, nI_clamp hc]; show bb + c ≤ 60; omega
        rw [nI_clamp ha, nI_clamp hbb, nI_clamp hc]
        have kk := kk (am_upA D 44 (va_cpy (D 44) (D 44) a bb c)) (fun q hq => by simp only [am_upA]; rw [if_neg (by omega)])
        (repeat ((conv => whnf); (first | refine zo0 ?_ | refine zo1 ?_ | refine br_z ?_ | refine br_o ?_ | refine br_zn ?_ | refine br_on ?_ | refine nz2 ?_ | refine nz6 ?_ | refine nz32 ?_ | refine And.intro (by assumption) ?_))); (conv => whnf)
        refine kk (ix_sh hi (fun q hq => by simp only [am_upA]; rw [if_neg (by omega)]) (ish_mk (s := 1) hs (fun q h1 h2 => by simp only [am_upA]; rw [if_neg (by omega)]) (fun q hq => ⟨by rw [gCp_c (by decide)], by rw [gCp_c (by decide)], by rw [gCp_c (by decide)], fun j hj => ?_⟩) ⟨?_, ?_, ?_, fun j hj => ?_⟩) (fun q hq => gCp_c (by omega)))
        · unfold gCp; rw [if_pos rfl, if_neg (by omega)]
        · rw [gCp_c (by decide)]; exact x1
        · rw [gCp_c (by decide)]; exact x2
        · rw [gCp_c (by decide)]; exact x3
        · unfold gCp
          rw [if_pos rfl]
          show va_cpy (D 44) (D 44) a bb c j = _
          by_cases e : bb ≤ j ∧ j < bb + c
          · rw [pk_cpy_in e.1 e.2, if_pos (by omega), d4 _ (by omega), show 60 * 1 + (a + (j - bb)) = 60 * 1 + a + (60 * 1 + j - (60 * 1 + bb)) by omega]
          · rw [pk_cpy_out (by omega), if_neg (by omega)]
            exact x4 j hj
      · subst ez
        have hz : (0 : Int32) ≤ 2 ∧ (2 : Int32) ≤ 3 := by decide
        obtain ⟨x1, x2, x3, x4⟩ := hs 2 (by decide)
        obtain ⟨p7, p9, p60⟩ := vok_sh hv (show 2 < 4 by decide)
        have f1 : D 45 1 = v 8 2 := x1
        have f3 : D 45 3 = 1 - v 7 2 := x3
        (repeat ((conv => whnf); (first | refine zo0 ?_ | refine zo1 ?_ | refine br_z ?_ | refine br_o ?_ | refine br_zn ?_ | refine br_on ?_ | refine nz2 ?_ | refine nz6 ?_ | refine nz32 ?_ | refine And.intro (by assumption) ?_))); (conv => whnf)
        rw [d3]
        refine ⟨fun h1 => ?_, fun h1 => ?_⟩
        · have e7 : v 7 1 = 0 := by
            rcases o7 with q | q
            · exact q
            · rw [q] at h1; exact absurd (by decide) h1
          have kk := hK (am_up D 0 16 1) L (fc_up (by decide) fc_rf)
          unfold qCopy gCopy at kk
          rw [if_pos hx, if_pos hx, if_pos hz, if_pos hz, cN_1, cN_2, if_pos e7, if_pos e7] at kk
          (repeat ((conv => whnf); (first | refine zo0 ?_ | refine zo1 ?_ | refine br_z ?_ | refine br_o ?_ | refine br_zn ?_ | refine br_on ?_ | refine nz2 ?_ | refine nz6 ?_ | refine nz32 ?_ | refine And.intro (by assumption) ?_))); (conv => whnf)
          exact kk (ix_find hi)
        have e7 : ¬ v 7 1 = 0 := fun q => by rw [q] at h1; exact absurd h1 (by decide)
        (repeat ((conv => whnf); (first | refine zo0 ?_ | refine zo1 ?_ | refine br_z ?_ | refine br_o ?_ | refine br_zn ?_ | refine br_on ?_ | refine nz2 ?_ | refine nz6 ?_ | refine nz32 ?_ | refine And.intro (by assumption) ?_))); (conv => whnf)
        rw [f3]
        refine ⟨fun h2 => ?_, fun h2 => ?_⟩
        rotate_left
        · have g7 : v 7 2 = 0 := by
            rcases p7 with q | q
            · exact q
            · rw [q] at h2; exact absurd (by decide) h2
          have kk := hK (am_up D 0 16 1) L (fc_up (by decide) fc_rf)
          unfold qCopy gCopy at kk
          rw [if_pos hx, if_pos hx, if_pos hz, if_pos hz, cN_1, cN_2, if_neg e7, if_neg e7, if_pos g7, if_pos g7] at kk
          (repeat ((conv => whnf); (first | refine zo0 ?_ | refine zo1 ?_ | refine br_z ?_ | refine br_o ?_ | refine br_zn ?_ | refine br_on ?_ | refine nz2 ?_ | refine nz6 ?_ | refine nz32 ?_ | refine And.intro (by assumption) ?_))); (conv => whnf)
          exact kk (ix_find hi)
        have g7 : ¬ v 7 2 = 0 := fun q => by rw [q] at h2; exact absurd h2 (by decide)
        (repeat ((conv => whnf); (first | refine zo0 ?_ | refine zo1 ?_ | refine br_z ?_ | refine br_o ?_ | refine br_zn ?_ | refine br_on ?_ | refine nz2 ?_ | refine nz6 ?_ | refine nz32 ?_ | refine And.intro (by assumption) ?_))); (conv => whnf)
        rw [d1, f1]
        refine ⟨fun h3 => ?_, fun h3 => ?_⟩
        rotate_left
        · have kk := hK (am_up D 0 16 4) L (fc_up (by decide) fc_rf)
          unfold qCopy gCopy at kk
          rw [if_pos hx, if_pos hx, if_pos hz, if_pos hz, cN_1, cN_2, if_neg e7, if_neg e7, if_neg g7, if_neg g7, if_neg h3, if_neg h3] at kk
          (repeat ((conv => whnf); (first | refine zo0 ?_ | refine zo1 ?_ | refine br_z ?_ | refine br_o ?_ | refine br_zn ?_ | refine br_on ?_ | refine nz2 ?_ | refine nz6 ?_ | refine nz32 ?_ | refine And.intro (by assumption) ?_))); (conv => whnf)
          exact kk (ix_find hi)
        have kbad : ¬ (hld (v 9 1) y r = true ∧ hld (v 9 2) u r = true) → K (some (.int (-12))) (am_up D 0 16 2) L := fun q => by
          have kk := hK (am_up D 0 16 2) L (fc_up (by decide) fc_rf)
          unfold qCopy gCopy at kk
          rw [if_pos hx, if_pos hx, if_pos hz, if_pos hz, cN_1, cN_2, if_neg e7, if_neg e7, if_neg g7, if_neg g7, if_pos h3, if_pos h3, if_neg q, if_neg q] at kk
          exact kk (ix_find hi)
        have kgood : (hld (v 9 1) y r = true ∧ hld (v 9 2) u r = true) → ∀ D', fc D D' → ix D' (gCp v 1 (cN y) 2 (cN u) (cN r)) → K (some (.int 1)) D' L := fun q D' f => by
          have kk := hK D' L f
          unfold qCopy gCopy at kk
          rw [if_pos hx, if_pos hx, if_pos hz, if_pos hz, cN_1, cN_2, if_neg e7, if_neg e7, if_neg g7, if_neg g7, if_pos h3, if_pos h3, if_pos q, if_pos q] at kk
          exact kk
        (repeat ((conv => whnf); (first | refine zo0 ?_ | refine zo1 ?_ | refine br_z ?_ | refine br_o ?_ | refine br_zn ?_ | refine br_on ?_ | refine nz2 ?_ | refine nz6 ?_ | refine nz32 ?_ | refine And.intro (by assumption) ?_))); (conv => whnf)
        refine ⟨v, 1, hv, hs, Or.inr (Or.inl ⟨rfl, rfl⟩), fun r1 hr1 => ?_⟩
        rcases hr1 with ⟨t1, rfl⟩ | ⟨t1, rfl⟩
        rotate_left
        · have kk := kbad (fun q => by rw [t1] at q; exact absurd q.1 (by decide))
          (repeat ((conv => whnf); (first | refine zo0 ?_ | refine zo1 ?_ | refine br_z ?_ | refine br_o ?_ | refine br_zn ?_ | refine br_on ?_ | refine nz2 ?_ | refine nz6 ?_ | refine nz32 ?_ | refine And.intro (by assumption) ?_))); (conv => whnf)
          exact kk
        (repeat ((conv => whnf); (first | refine zo0 ?_ | refine zo1 ?_ | refine br_z ?_ | refine br_o ?_ | refine br_zn ?_ | refine br_on ?_ | refine nz2 ?_ | refine nz6 ?_ | refine nz32 ?_ | refine And.intro (by assumption) ?_))); (conv => whnf)
        refine ⟨v, 2, hv, hs, Or.inr (Or.inr (Or.inl ⟨rfl, rfl⟩)), fun r2 hr2 => ?_⟩
        rcases hr2 with ⟨t2, rfl⟩ | ⟨t2, rfl⟩
        rotate_left
        · have kk := kbad (fun q => by rw [t2] at q; exact absurd q.2 (by decide))
          (repeat ((conv => whnf); (first | refine zo0 ?_ | refine zo1 ?_ | refine br_z ?_ | refine br_o ?_ | refine br_zn ?_ | refine br_on ?_ | refine nz2 ?_ | refine nz6 ?_ | refine nz32 ?_ | refine And.intro (by assumption) ?_))); (conv => whnf)
          exact kk
        have kk := kgood ⟨t1, t2⟩
        have ny : ¬ y < 0 := fun q => by rw [hld_i q] at t1; exact absurd t1 (by decide)
        have nu : ¬ u < 0 := fun q => by rw [hld_i q] at t2; exact absurd t2 (by decide)
        have nr : ¬ r < 0 := fun q => by rw [hld_n q] at t1; exact absurd t1 (by decide)
        obtain ⟨a, ha, ea⟩ := nI_of ny
        obtain ⟨bb, hbb, eb⟩ := nI_of nu
        obtain ⟨c, hc, ec⟩ := nI_of nr
        subst ea eb ec
        rw [o9, hld_N (by omega) ha hc] at t1
        rw [p9, hld_N (by omega) hbb hc] at t2
        rw [cN_nI ha, cN_nI hbb, cN_nI hc] at kk
        (repeat ((conv => whnf); (first | refine zo0 ?_ | refine zo1 ?_ | refine br_z ?_ | refine br_o ?_ | refine br_zn ?_ | refine br_on ?_ | refine nz2 ?_ | refine nz6 ?_ | refine nz32 ?_ | refine And.intro (by assumption) ?_))); (conv => whnf)
        refine ⟨⟨rfl, rfl, ny, nu, nr, ?_, ?_⟩, ?_⟩
        · rw [nI_clamp ha, nI_clamp hc]; show a + c ≤ 60; omega
        · rw [nI_clamp hbb, nI_clamp hc]; show bb + c ≤ 60; omega
        rw [nI_clamp ha, nI_clamp hbb, nI_clamp hc]
        have kk := kk (am_upA D 46 (va_cpy (D 44) (D 46) a bb c)) (fun q hq => by simp only [am_upA]; rw [if_neg (by omega)])
        (repeat ((conv => whnf); (first | refine zo0 ?_ | refine zo1 ?_ | refine br_z ?_ | refine br_o ?_ | refine br_zn ?_ | refine br_on ?_ | refine nz2 ?_ | refine nz6 ?_ | refine nz32 ?_ | refine And.intro (by assumption) ?_))); (conv => whnf)
        refine kk (ix_sh hi (fun q hq => by simp only [am_upA]; rw [if_neg (by omega)]) (ish_mk (s := 2) hs (fun q h1 h2 => by simp only [am_upA]; rw [if_neg (by omega)]) (fun q hq => ⟨by rw [gCp_c (by decide)], by rw [gCp_c (by decide)], by rw [gCp_c (by decide)], fun j hj => ?_⟩) ⟨?_, ?_, ?_, fun j hj => ?_⟩) (fun q hq => gCp_c (by omega)))
        · unfold gCp; rw [if_pos rfl, if_neg (by omega)]
        · rw [gCp_c (by decide)]; exact x1
        · rw [gCp_c (by decide)]; exact x2
        · rw [gCp_c (by decide)]; exact x3
        · unfold gCp
          rw [if_pos rfl]
          show va_cpy (D 44) (D 46) a bb c j = _
          by_cases e : bb ≤ j ∧ j < bb + c
          · rw [pk_cpy_in e.1 e.2, if_pos (by omega), d4 _ (by omega), show 60 * 1 + (a + (j - bb)) = 60 * 1 + a + (60 * 2 + j - (60 * 2 + bb)) by omega]
          · rw [pk_cpy_out (by omega), if_neg (by omega)]
            exact x4 j hj
      · subst ez
        have hz : (0 : Int32) ≤ 3 ∧ (3 : Int32) ≤ 3 := by decide
        obtain ⟨x1, x2, x3, x4⟩ := hs 3 (by decide)
        obtain ⟨p7, p9, p60⟩ := vok_sh hv (show 3 < 4 by decide)
        have f1 : D 47 1 = v 8 3 := x1
        have f3 : D 47 3 = 1 - v 7 3 := x3
        (repeat ((conv => whnf); (first | refine zo0 ?_ | refine zo1 ?_ | refine br_z ?_ | refine br_o ?_ | refine br_zn ?_ | refine br_on ?_ | refine nz2 ?_ | refine nz6 ?_ | refine nz32 ?_ | refine And.intro (by assumption) ?_))); (conv => whnf)
        rw [d3]
        refine ⟨fun h1 => ?_, fun h1 => ?_⟩
        · have e7 : v 7 1 = 0 := by
            rcases o7 with q | q
            · exact q
            · rw [q] at h1; exact absurd (by decide) h1
          have kk := hK (am_up D 0 16 1) L (fc_up (by decide) fc_rf)
          unfold qCopy gCopy at kk
          rw [if_pos hx, if_pos hx, if_pos hz, if_pos hz, cN_1, cN_3, if_pos e7, if_pos e7] at kk
          (repeat ((conv => whnf); (first | refine zo0 ?_ | refine zo1 ?_ | refine br_z ?_ | refine br_o ?_ | refine br_zn ?_ | refine br_on ?_ | refine nz2 ?_ | refine nz6 ?_ | refine nz32 ?_ | refine And.intro (by assumption) ?_))); (conv => whnf)
          exact kk (ix_find hi)
        have e7 : ¬ v 7 1 = 0 := fun q => by rw [q] at h1; exact absurd h1 (by decide)
        (repeat ((conv => whnf); (first | refine zo0 ?_ | refine zo1 ?_ | refine br_z ?_ | refine br_o ?_ | refine br_zn ?_ | refine br_on ?_ | refine nz2 ?_ | refine nz6 ?_ | refine nz32 ?_ | refine And.intro (by assumption) ?_))); (conv => whnf)
        rw [f3]
        refine ⟨fun h2 => ?_, fun h2 => ?_⟩
        rotate_left
        · have g7 : v 7 3 = 0 := by
            rcases p7 with q | q
            · exact q
            · rw [q] at h2; exact absurd (by decide) h2
          have kk := hK (am_up D 0 16 1) L (fc_up (by decide) fc_rf)
          unfold qCopy gCopy at kk
          rw [if_pos hx, if_pos hx, if_pos hz, if_pos hz, cN_1, cN_3, if_neg e7, if_neg e7, if_pos g7, if_pos g7] at kk
          (repeat ((conv => whnf); (first | refine zo0 ?_ | refine zo1 ?_ | refine br_z ?_ | refine br_o ?_ | refine br_zn ?_ | refine br_on ?_ | refine nz2 ?_ | refine nz6 ?_ | refine nz32 ?_ | refine And.intro (by assumption) ?_))); (conv => whnf)
          exact kk (ix_find hi)
        have g7 : ¬ v 7 3 = 0 := fun q => by rw [q] at h2; exact absurd h2 (by decide)
        (repeat ((conv => whnf); (first | refine zo0 ?_ | refine zo1 ?_ | refine br_z ?_ | refine br_o ?_ | refine br_zn ?_ | refine br_on ?_ | refine nz2 ?_ | refine nz6 ?_ | refine nz32 ?_ | refine And.intro (by assumption) ?_))); (conv => whnf)
        rw [d1, f1]
        refine ⟨fun h3 => ?_, fun h3 => ?_⟩
        rotate_left
        · have kk := hK (am_up D 0 16 4) L (fc_up (by decide) fc_rf)
          unfold qCopy gCopy at kk
          rw [if_pos hx, if_pos hx, if_pos hz, if_pos hz, cN_1, cN_3, if_neg e7, if_neg e7, if_neg g7, if_neg g7, if_neg h3, if_neg h3] at kk
          (repeat ((conv => whnf); (first | refine zo0 ?_ | refine zo1 ?_ | refine br_z ?_ | refine br_o ?_ | refine br_zn ?_ | refine br_on ?_ | refine nz2 ?_ | refine nz6 ?_ | refine nz32 ?_ | refine And.intro (by assumption) ?_))); (conv => whnf)
          exact kk (ix_find hi)
        have kbad : ¬ (hld (v 9 1) y r = true ∧ hld (v 9 3) u r = true) → K (some (.int (-12))) (am_up D 0 16 2) L := fun q => by
          have kk := hK (am_up D 0 16 2) L (fc_up (by decide) fc_rf)
          unfold qCopy gCopy at kk
          rw [if_pos hx, if_pos hx, if_pos hz, if_pos hz, cN_1, cN_3, if_neg e7, if_neg e7, if_neg g7, if_neg g7, if_pos h3, if_pos h3, if_neg q, if_neg q] at kk
          exact kk (ix_find hi)
        have kgood : (hld (v 9 1) y r = true ∧ hld (v 9 3) u r = true) → ∀ D', fc D D' → ix D' (gCp v 1 (cN y) 3 (cN u) (cN r)) → K (some (.int 1)) D' L := fun q D' f => by
          have kk := hK D' L f
          unfold qCopy gCopy at kk
          rw [if_pos hx, if_pos hx, if_pos hz, if_pos hz, cN_1, cN_3, if_neg e7, if_neg e7, if_neg g7, if_neg g7, if_pos h3, if_pos h3, if_pos q, if_pos q] at kk
          exact kk
        (repeat ((conv => whnf); (first | refine zo0 ?_ | refine zo1 ?_ | refine br_z ?_ | refine br_o ?_ | refine br_zn ?_ | refine br_on ?_ | refine nz2 ?_ | refine nz6 ?_ | refine nz32 ?_ | refine And.intro (by assumption) ?_))); (conv => whnf)
        refine ⟨v, 1, hv, hs, Or.inr (Or.inl ⟨rfl, rfl⟩), fun r1 hr1 => ?_⟩
        rcases hr1 with ⟨t1, rfl⟩ | ⟨t1, rfl⟩
        rotate_left
        · have kk := kbad (fun q => by rw [t1] at q; exact absurd q.1 (by decide))
          (repeat ((conv => whnf); (first | refine zo0 ?_ | refine zo1 ?_ | refine br_z ?_ | refine br_o ?_ | refine br_zn ?_ | refine br_on ?_ | refine nz2 ?_ | refine nz6 ?_ | refine nz32 ?_ | refine And.intro (by assumption) ?_))); (conv => whnf)
          exact kk
        (repeat ((conv => whnf); (first | refine zo0 ?_ | refine zo1 ?_ | refine br_z ?_ | refine br_o ?_ | refine br_zn ?_ | refine br_on ?_ | refine nz2 ?_ | refine nz6 ?_ | refine nz32 ?_ | refine And.intro (by assumption) ?_))); (conv => whnf)
        refine ⟨v, 3, hv, hs, Or.inr (Or.inr (Or.inr ⟨rfl, rfl⟩)), fun r2 hr2 => ?_⟩
        rcases hr2 with ⟨t2, rfl⟩ | ⟨t2, rfl⟩
        rotate_left
        · have kk := kbad (fun q => by rw [t2] at q; exact absurd q.2 (by decide))
          (repeat ((conv => whnf); (first | refine zo0 ?_ | refine zo1 ?_ | refine br_z ?_ | refine br_o ?_ | refine br_zn ?_ | refine br_on ?_ | refine nz2 ?_ | refine nz6 ?_ | refine nz32 ?_ | refine And.intro (by assumption) ?_))); (conv => whnf)
          exact kk
        have kk := kgood ⟨t1, t2⟩
        have ny : ¬ y < 0 := fun q => by rw [hld_i q] at t1; exact absurd t1 (by decide)
        have nu : ¬ u < 0 := fun q => by rw [hld_i q] at t2; exact absurd t2 (by decide)
        have nr : ¬ r < 0 := fun q => by rw [hld_n q] at t1; exact absurd t1 (by decide)
        obtain ⟨a, ha, ea⟩ := nI_of ny
        obtain ⟨bb, hbb, eb⟩ := nI_of nu
        obtain ⟨c, hc, ec⟩ := nI_of nr
        subst ea eb ec
        rw [o9, hld_N (by omega) ha hc] at t1
        rw [p9, hld_N (by omega) hbb hc] at t2
        rw [cN_nI ha, cN_nI hbb, cN_nI hc] at kk
        (repeat ((conv => whnf); (first | refine zo0 ?_ | refine zo1 ?_ | refine br_z ?_ | refine br_o ?_ | refine br_zn ?_ | refine br_on ?_ | refine nz2 ?_ | refine nz6 ?_ | refine nz32 ?_ | refine And.intro (by assumption) ?_))); (conv => whnf)
        refine ⟨⟨rfl, rfl, ny, nu, nr, ?_, ?_⟩, ?_⟩
        · rw [nI_clamp ha, nI_clamp hc]; show a + c ≤ 60; omega
        · rw [nI_clamp hbb, nI_clamp hc]; show bb + c ≤ 60; omega
        rw [nI_clamp ha, nI_clamp hbb, nI_clamp hc]
        have kk := kk (am_upA D 48 (va_cpy (D 44) (D 48) a bb c)) (fun q hq => by simp only [am_upA]; rw [if_neg (by omega)])
        (repeat ((conv => whnf); (first | refine zo0 ?_ | refine zo1 ?_ | refine br_z ?_ | refine br_o ?_ | refine br_zn ?_ | refine br_on ?_ | refine nz2 ?_ | refine nz6 ?_ | refine nz32 ?_ | refine And.intro (by assumption) ?_))); (conv => whnf)
        refine kk (ix_sh hi (fun q hq => by simp only [am_upA]; rw [if_neg (by omega)]) (ish_mk (s := 3) hs (fun q h1 h2 => by simp only [am_upA]; rw [if_neg (by omega)]) (fun q hq => ⟨by rw [gCp_c (by decide)], by rw [gCp_c (by decide)], by rw [gCp_c (by decide)], fun j hj => ?_⟩) ⟨?_, ?_, ?_, fun j hj => ?_⟩) (fun q hq => gCp_c (by omega)))
        · unfold gCp; rw [if_pos rfl, if_neg (by omega)]
        · rw [gCp_c (by decide)]; exact x1
        · rw [gCp_c (by decide)]; exact x2
        · rw [gCp_c (by decide)]; exact x3
        · unfold gCp
          rw [if_pos rfl]
          show va_cpy (D 44) (D 48) a bb c j = _
          by_cases e : bb ≤ j ∧ j < bb + c
          · rw [pk_cpy_in e.1 e.2, if_pos (by omega), d4 _ (by omega), show 60 * 1 + (a + (j - bb)) = 60 * 1 + a + (60 * 3 + j - (60 * 3 + bb)) by omega]
          · rw [pk_cpy_out (by omega), if_neg (by omega)]
            exact x4 j hj
      · have kk := kb (fun q => ez q.2)
        (repeat ((conv => whnf); (first | refine zo0 ?_ | refine zo1 ?_ | refine br_z ?_ | refine br_o ?_ | refine br_zn ?_ | refine br_on ?_ | refine nz2 ?_ | refine nz6 ?_ | refine nz32 ?_ | refine And.intro (by assumption) ?_))); (conv => whnf)
        exact kk
    · subst ex
      have hx : (0 : Int32) ≤ 2 ∧ (2 : Int32) ≤ 3 := by decide
      obtain ⟨w1, w2, w3, w4⟩ := hs 2 (by decide)
      obtain ⟨o7, o9, o60⟩ := vok_sh hv (show 2 < 4 by decide)
      have d1 : D 45 1 = v 8 2 := w1
      have d2 : D 45 2 = nI (vn v 9 2) := w2.trans o9
      have d3 : D 45 3 = 1 - v 7 2 := w3
      have d4 : ∀ i, i < 60 → D 46 i = v 10 (60 * 2 + i) := w4
      (repeat ((conv => whnf); (first | refine zo0 ?_ | refine zo1 ?_ | refine br_z ?_ | refine br_o ?_ | refine br_zn ?_ | refine br_on ?_ | refine nz2 ?_ | refine nz6 ?_ | refine nz32 ?_ | refine And.intro (by assumption) ?_))); (conv => whnf)
      refine ⟨fun ez => ?_, fun ez => ?_, fun ez => ?_, fun ez => ?_, fun ez => ?_⟩
      · subst ez
        have hz : (0 : Int32) ≤ 0 ∧ (0 : Int32) ≤ 3 := by decide
        obtain ⟨x1, x2, x3, x4⟩ := hs 0 (by decide)
        obtain ⟨p7, p9, p60⟩ := vok_sh hv (show 0 < 4 by decide)
        have f1 : D 41 1 = v 8 0 := x1
        have f3 : D 41 3 = 1 - v 7 0 := x3
        (repeat ((conv => whnf); (first | refine zo0 ?_ | refine zo1 ?_ | refine br_z ?_ | refine br_o ?_ | refine br_zn ?_ | refine br_on ?_ | refine nz2 ?_ | refine nz6 ?_ | refine nz32 ?_ | refine And.intro (by assumption) ?_))); (conv => whnf)
        rw [d3]
        refine ⟨fun h1 => ?_, fun h1 => ?_⟩
        · have e7 : v 7 2 = 0 := by
            rcases o7 with q | q
            · exact q
            · rw [q] at h1; exact absurd (by decide) h1
          have kk := hK (am_up D 0 16 1) L (fc_up (by decide) fc_rf)
          unfold qCopy gCopy at kk
          rw [if_pos hx, if_pos hx, if_pos hz, if_pos hz, cN_2, cN_0, if_pos e7, if_pos e7] at kk
          (repeat ((conv => whnf); (first | refine zo0 ?_ | refine zo1 ?_ | refine br_z ?_ | refine br_o ?_ | refine br_zn ?_ | refine br_on ?_ | refine nz2 ?_ | refine nz6 ?_ | refine nz32 ?_ | refine And.intro (by assumption) ?_))); (conv => whnf)
          exact kk (ix_find hi)
        have e7 : ¬ v 7 2 = 0 := fun q => by rw [q] at h1; exact absurd h1 (by decide)
        (repeat ((conv => whnf); (first | refine zo0 ?_ | refine zo1 ?_ | refine br_z ?_ | refine br_o ?_ | refine br_zn ?_ | refine br_on ?_ | refine nz2 ?_ | refine nz6 ?_ | refine nz32 ?_ | refine And.intro (by assumption) ?_))); (conv => whnf)
        rw [f3]
        refine ⟨fun h2 => ?_, fun h2 => ?_⟩
        rotate_left
        · have g7 : v 7 0 = 0 := by
            rcases p7 with q | q
            · exact q
            · rw [q] at h2; exact absurd (by decide) h2
          have kk := hK (am_up D 0 16 1) L (fc_up (by decide) fc_rf)
          unfold qCopy gCopy at kk
          rw [if_pos hx, if_pos hx, if_pos hz, if_pos hz, cN_2, cN_0, if_neg e7, if_neg e7, if_pos g7, if_pos g7] at kk
          (repeat ((conv => whnf); (first | refine zo0 ?_ | refine zo1 ?_ | refine br_z ?_ | refine br_o ?_ | refine br_zn ?_ | refine br_on ?_ | refine nz2 ?_ | refine nz6 ?_ | refine nz32 ?_ | refine And.intro (by assumption) ?_))); (conv => whnf)
          exact kk (ix_find hi)
        have g7 : ¬ v 7 0 = 0 := fun q => by rw [q] at h2; exact absurd h2 (by decide)
        (repeat ((conv => whnf); (first | refine zo0 ?_ | refine zo1 ?_ | refine br_z ?_ | refine br_o ?_ | refine br_zn ?_ | refine br_on ?_ | refine nz2 ?_ | refine nz6 ?_ | refine nz32 ?_ | refine And.intro (by assumption) ?_))); (conv => whnf)
        rw [d1, f1]
        refine ⟨fun h3 => ?_, fun h3 => ?_⟩
        rotate_left
        · have kk := hK (am_up D 0 16 4) L (fc_up (by decide) fc_rf)
          unfold qCopy gCopy at kk
          rw [if_pos hx, if_pos hx, if_pos hz, if_pos hz, cN_2, cN_0, if_neg e7, if_neg e7, if_neg g7, if_neg g7, if_neg h3, if_neg h3] at kk
          (repeat ((conv => whnf); (first | refine zo0 ?_ | refine zo1 ?_ | refine br_z ?_ | refine br_o ?_ | refine br_zn ?_ | refine br_on ?_ | refine nz2 ?_ | refine nz6 ?_ | refine nz32 ?_ | refine And.intro (by assumption) ?_))); (conv => whnf)
          exact kk (ix_find hi)
        have kbad : ¬ (hld (v 9 2) y r = true ∧ hld (v 9 0) u r = true) → K (some (.int (-12))) (am_up D 0 16 2) L := fun q => by
          have kk := hK (am_up D 0 16 2) L (fc_up (by decide) fc_rf)
          unfold qCopy gCopy at kk
          rw [if_pos hx, if_pos hx, if_pos hz, if_pos hz, cN_2, cN_0, if_neg e7, if_neg e7, if_neg g7, if_neg g7, if_pos h3, if_pos h3, if_neg q, if_neg q] at kk
          exact kk (ix_find hi)
        have kgood : (hld (v 9 2) y r = true ∧ hld (v 9 0) u r = true) → ∀ D', fc D D' → ix D' (gCp v 2 (cN y) 0 (cN u) (cN r)) → K (some (.int 1)) D' L := fun q D' f => by
          have kk := hK D' L f
          unfold qCopy gCopy at kk
          rw [if_pos hx, if_pos hx, if_pos hz, if_pos hz, cN_2, cN_0, if_neg e7, if_neg e7, if_neg g7, if_neg g7, if_pos h3, if_pos h3, if_pos q, if_pos q] at kk
          exact kk
        (repeat ((conv => whnf); (first | refine zo0 ?_ | refine zo1 ?_ | refine br_z ?_ | refine br_o ?_ | refine br_zn ?_ | refine br_on ?_ | refine nz2 ?_ | refine nz6 ?_ | refine nz32 ?_ | refine And.intro (by assumption) ?_))); (conv => whnf)
        refine ⟨v, 2, hv, hs, Or.inr (Or.inr (Or.inl ⟨rfl, rfl⟩)), fun r1 hr1 => ?_⟩
        rcases hr1 with ⟨t1, rfl⟩ | ⟨t1, rfl⟩
        rotate_left
        · have kk := kbad (fun q => by rw [t1] at q; exact absurd q.1 (by decide))
          (repeat ((conv => whnf); (first | refine zo0 ?_ | refine zo1 ?_ | refine br_z ?_ | refine br_o ?_ | refine br_zn ?_ | refine br_on ?_ | refine nz2 ?_ | refine nz6 ?_ | refine nz32 ?_ | refine And.intro (by assumption) ?_))); (conv => whnf)
          exact kk
        (repeat ((conv => whnf); (first | refine zo0 ?_ | refine zo1 ?_ | refine br_z ?_ | refine br_o ?_ | refine br_zn ?_ | refine br_on ?_ | refine nz2 ?_ | refine nz6 ?_ | refine nz32 ?_ | refine And.intro (by assumption) ?_))); (conv => whnf)
        refine ⟨v, 0, hv, hs, Or.inl ⟨rfl, rfl⟩, fun r2 hr2 => ?_⟩
        rcases hr2 with ⟨t2, rfl⟩ | ⟨t2, rfl⟩
        rotate_left
        · have kk := kbad (fun q => by rw [t2] at q; exact absurd q.2 (by decide))
          (repeat ((conv => whnf); (first | refine zo0 ?_ | refine zo1 ?_ | refine br_z ?_ | refine br_o ?_ | refine br_zn ?_ | refine br_on ?_ | refine nz2 ?_ | refine nz6 ?_ | refine nz32 ?_ | refine And.intro (by assumption) ?_))); (conv => whnf)
          exact kk
        have kk := kgood ⟨t1, t2⟩
        have ny : ¬ y < 0 := fun q => by rw [hld_i q] at t1; exact absurd t1 (by decide)
        have nu : ¬ u < 0 := fun q => by rw [hld_i q] at t2; exact absurd t2 (by decide)
        have nr : ¬ r < 0 := fun q => by rw [hld_n q] at t1; exact absurd t1 (by decide)
        obtain ⟨a, ha, ea⟩ := nI_of ny
        obtain ⟨bb, hbb, eb⟩ := nI_of nu
        obtain ⟨c, hc, ec⟩ := nI_of nr
        subst ea eb ec
        rw [o9, hld_N (by omega) ha hc] at t1
        rw [p9, hld_N (by omega) hbb hc] at t2
        rw [cN_nI ha, cN_nI hbb, cN_nI hc] at kk
        (repeat ((conv => whnf); (first | refine zo0 ?_ | refine zo1 ?_ | refine br_z ?_ | refine br_o ?_ | refine br_zn ?_ | refine br_on ?_ | refine nz2 ?_ | refine nz6 ?_ | refine nz32 ?_ | refine And.intro (by assumption) ?_))); (conv => whnf)
        refine ⟨⟨rfl, rfl, ny, nu, nr, ?_, ?_⟩, ?_⟩
        · rw [nI_clamp ha, nI_clamp hc]; show a + c ≤ 60; omega
        · rw [nI_clamp hbb, nI_clamp hc]; show bb + c ≤ 60; omega
        rw [nI_clamp ha, nI_clamp hbb, nI_clamp hc]
        have kk := kk (am_upA D 42 (va_cpy (D 46) (D 42) a bb c)) (fun q hq => by simp only [am_upA]; rw [if_neg (by omega)])
        (repeat ((conv => whnf); (first | refine zo0 ?_ | refine zo1 ?_ | refine br_z ?_ | refine br_o ?_ | refine br_zn ?_ | refine br_on ?_ | refine nz2 ?_ | refine nz6 ?_ | refine nz32 ?_ | refine And.intro (by assumption) ?_))); (conv => whnf)
        refine kk (ix_sh hi (fun q hq => by simp only [am_upA]; rw [if_neg (by omega)]) (ish_mk (s := 0) hs (fun q h1 h2 => by simp only [am_upA]; rw [if_neg (by omega)]) (fun q hq => ⟨by rw [gCp_c (by decide)], by rw [gCp_c (by decide)], by rw [gCp_c (by decide)], fun j hj => ?_⟩) ⟨?_, ?_, ?_, fun j hj => ?_⟩) (fun q hq => gCp_c (by omega)))
        · unfold gCp; rw [if_pos rfl, if_neg (by omega)]
        · rw [gCp_c (by decide)]; exact x1
        · rw [gCp_c (by decide)]; exact x2
        · rw [gCp_c (by decide)]; exact x3
        · unfold gCp
          rw [if_pos rfl]
          show va_cpy (D 46) (D 42) a bb c j = _
          by_cases e : bb ≤ j ∧ j < bb + c
          · rw [pk_cpy_in e.1 e.2, if_pos (by omega), d4 _ (by omega), show 60 * 2 + (a + (j - bb)) = 60 * 2 + a + (60 * 0 + j - (60 * 0 + bb)) by omega]
          · rw [pk_cpy_out (by omega), if_neg (by omega)]
            exact x4 j hj
      · subst ez
        have hz : (0 : Int32) ≤ 1 ∧ (1 : Int32) ≤ 3 := by decide
        obtain ⟨x1, x2, x3, x4⟩ := hs 1 (by decide)
        obtain ⟨p7, p9, p60⟩ := vok_sh hv (show 1 < 4 by decide)
        have f1 : D 43 1 = v 8 1 := x1
        have f3 : D 43 3 = 1 - v 7 1 := x3
        (repeat ((conv => whnf); (first | refine zo0 ?_ | refine zo1 ?_ | refine br_z ?_ | refine br_o ?_ | refine br_zn ?_ | refine br_on ?_ | refine nz2 ?_ | refine nz6 ?_ | refine nz32 ?_ | refine And.intro (by assumption) ?_))); (conv => whnf)
        rw [d3]
        refine ⟨fun h1 => ?_, fun h1 => ?_⟩
        · have e7 : v 7 2 = 0 := by
            rcases o7 with q | q
            · exact q
            · rw [q] at h1; exact absurd (by decide) h1
          have kk := hK (am_up D 0 16 1) L (fc_up (by decide) fc_rf)
          unfold qCopy gCopy at kk
          rw [if_pos hx, if_pos hx, if_pos hz, if_pos hz, cN_2, cN_1, if_pos e7, if_pos e7] at kk
          (repeat ((conv => whnf); (first | refine zo0 ?_ | refine zo1 ?_ | refine br_z ?_ | refine br_o ?_ | refine br_zn ?_ | refine br_on ?_ | refine nz2 ?_ | refine nz6 ?_ | refine nz32 ?_ | refine And.intro (by assumption) ?_))); (conv => whnf)
          exact kk (ix_find hi)
        have e7 : ¬ v 7 2 = 0 := fun q => by rw [q] at h1; exact absurd h1 (by decide)
        (repeat ((conv => whnf); (first | refine zo0 ?_ | refine zo1 ?_ | refine br_z ?_ | refine br_o ?_ | refine br_zn ?_ | refine br_on ?_ | refine nz2 ?_ | refine nz6 ?_ | refine nz32 ?_ | refine And.intro (by assumption) ?_))); (conv => whnf)
        rw [f3]
        refine ⟨fun h2 => ?_, fun h2 => ?_⟩
        rotate_left
        · have g7 : v 7 1 = 0 := by
            rcases p7 with q | q
            · exact q
            · rw [q] at h2; exact absurd (by decide) h2
          have kk := hK (am_up D 0 16 1) L (fc_up (by decide) fc_rf)
          unfold qCopy gCopy at kk
          rw [if_pos hx, if_pos hx, if_pos hz, if_pos hz, cN_2, cN_1, if_neg e7, if_neg e7, if_pos g7, if_pos g7] at kk
          (repeat ((conv => whnf); (first | refine zo0 ?_ | refine zo1 ?_ | refine br_z ?_ | refine br_o ?_ | refine br_zn ?_ | refine br_on ?_ | refine nz2 ?_ | refine nz6 ?_ | refine nz32 ?_ | refine And.intro (by assumption) ?_))); (conv => whnf)
          exact kk (ix_find hi)
        have g7 : ¬ v 7 1 = 0 := fun q => by rw [q] at h2; exact absurd h2 (by decide)
        (repeat ((conv => whnf); (first | refine zo0 ?_ | refine zo1 ?_ | refine br_z ?_ | refine br_o ?_ | refine br_zn ?_ | refine br_on ?_ | refine nz2 ?_ | refine nz6 ?_ | refine nz32 ?_ | refine And.intro (by assumption) ?_))); (conv => whnf)
        rw [d1, f1]
        refine ⟨fun h3 => ?_, fun h3 => ?_⟩
        rotate_left
        · have kk := hK (am_up D 0 16 4) L (fc_up (by decide) fc_rf)
          unfold qCopy gCopy at kk
          rw [if_pos hx, if_pos hx, if_pos hz, if_pos hz, cN_2, cN_1, if_neg e7, if_neg e7, if_neg g7, if_neg g7, if_neg h3, if_neg h3] at kk
          (repeat ((conv => whnf); (first | refine zo0 ?_ | refine zo1 ?_ | refine br_z ?_ | refine br_o ?_ | refine br_zn ?_ | refine br_on ?_ | refine nz2 ?_ | refine nz6 ?_ | refine nz32 ?_ | refine And.intro (by assumption) ?_))); (conv => whnf)
          exact kk (ix_find hi)
        have kbad : ¬ (hld (v 9 2) y r = true ∧ hld (v 9 1) u r = true) → K (some (.int (-12))) (am_up D 0 16 2) L := fun q => by
          have kk := hK (am_up D 0 16 2) L (fc_up (by decide) fc_rf)
          unfold qCopy gCopy at kk
          rw [if_pos hx, if_pos hx, if_pos hz, if_pos hz, cN_2, cN_1, if_neg e7, if_neg e7, if_neg g7, if_neg g7, if_pos h3, if_pos h3, if_neg q, if_neg q] at kk
          exact kk (ix_find hi)
        have kgood : (hld (v 9 2) y r = true ∧ hld (v 9 1) u r = true) → ∀ D', fc D D' → ix D' (gCp v 2 (cN y) 1 (cN u) (cN r)) → K (some (.int 1)) D' L := fun q D' f => by
          have kk := hK D' L f
          unfold qCopy gCopy at kk
          rw [if_pos hx, if_pos hx, if_pos hz, if_pos hz, cN_2, cN_1, if_neg e7, if_neg e7, if_neg g7, if_neg g7, if_pos h3, if_pos h3, if_pos q, if_pos q] at kk
          exact kk
        (repeat ((conv => whnf); (first | refine zo0 ?_ | refine zo1 ?_ | refine br_z ?_ | refine br_o ?_ | refine br_zn ?_ | refine br_on ?_ | refine nz2 ?_ | refine nz6 ?_ | refine nz32 ?_ | refine And.intro (by assumption) ?_))); (conv => whnf)
        refine ⟨v, 2, hv, hs, Or.inr (Or.inr (Or.inl ⟨rfl, rfl⟩)), fun r1 hr1 => ?_⟩
        rcases hr1 with ⟨t1, rfl⟩ | ⟨t1, rfl⟩
        rotate_left
        · have kk := kbad (fun q => by rw [t1] at q; exact absurd q.1 (by decide))
          (repeat ((conv => whnf); (first | refine zo0 ?_ | refine zo1 ?_ | refine br_z ?_ | refine br_o ?_ | refine br_zn ?_ | refine br_on ?_ | refine nz2 ?_ | refine nz6 ?_ | refine nz32 ?_ | refine And.intro (by assumption) ?_))); (conv => whnf)
          exact kk
        (repeat ((conv => whnf); (first | refine zo0 ?_ | refine zo1 ?_ | refine br_z ?_ | refine br_o ?_ | refine br_zn ?_ | refine br_on ?_ | refine nz2 ?_ | refine nz6 ?_ | refine nz32 ?_ | refine And.intro (by assumption) ?_))); (conv => whnf)
        refine ⟨v, 1, hv, hs, Or.inr (Or.inl ⟨rfl, rfl⟩), fun r2 hr2 => ?_⟩
        rcases hr2 with ⟨t2, rfl⟩ | ⟨t2, rfl⟩
        rotate_left
        · have kk := kbad (fun q => by rw [t2] at q; exact absurd q.2 (by decide))
          (repeat ((conv => whnf); (first | refine zo0 ?_ | refine zo1 ?_ | refine br_z ?_ | refine br_o ?_ | refine br_zn ?_ | refine br_on ?_ | refine nz2 ?_ | refine nz6 ?_ | refine nz32 ?_ | refine And.intro (by assumption) ?_))); (conv => whnf)
          exact kk
        have kk := kgood ⟨t1, t2⟩
        have ny : ¬ y < 0 := fun q => by rw [hld_i q] at t1; exact absurd t1 (by decide)
        have nu : ¬ u < 0 := fun q => by rw [hld_i q] at t2; exact absurd t2 (by decide)
        have nr : ¬ r < 0 := fun q => by rw [hld_n q] at t1; exact absurd t1 (by decide)
        obtain ⟨a, ha, ea⟩ := nI_of ny
        obtain ⟨bb, hbb, eb⟩ := nI_of nu
        obtain ⟨c, hc, ec⟩ := nI_of nr
        subst ea eb ec
        rw [o9, hld_N (by omega) ha hc] at t1
        rw [p9, hld_N (by omega) hbb hc] at t2
        rw [cN_nI ha, cN_nI hbb, cN_nI hc] at kk
        (repeat ((conv => whnf); (first | refine zo0 ?_ | refine zo1 ?_ | refine br_z ?_ | refine br_o ?_ | refine br_zn ?_ | refine br_on ?_ | refine nz2 ?_ | refine nz6 ?_ | refine nz32 ?_ | refine And.intro (by assumption) ?_))); (conv => whnf)
        refine ⟨⟨rfl, rfl, ny, nu, nr, ?_, ?_⟩, ?_⟩
        · rw [nI_clamp ha, nI_clamp hc]; show a + c ≤ 60; omega
        · rw [nI_clamp hbb, nI_clamp hc]; show bb + c ≤ 60; omega
        rw [nI_clamp ha, nI_clamp hbb, nI_clamp hc]
        have kk := kk (am_upA D 44 (va_cpy (D 46) (D 44) a bb c)) (fun q hq => by simp only [am_upA]; rw [if_neg (by omega)])
        (repeat ((conv => whnf); (first | refine zo0 ?_ | refine zo1 ?_ | refine br_z ?_ | refine br_o ?_ | refine br_zn ?_ | refine br_on ?_ | refine nz2 ?_ | refine nz6 ?_ | refine nz32 ?_ | refine And.intro (by assumption) ?_))); (conv => whnf)
        refine kk (ix_sh hi (fun q hq => by simp only [am_upA]; rw [if_neg (by omega)]) (ish_mk (s := 1) hs (fun q h1 h2 => by simp only [am_upA]; rw [if_neg (by omega)]) (fun q hq => ⟨by rw [gCp_c (by decide)], by rw [gCp_c (by decide)], by rw [gCp_c (by decide)], fun j hj => ?_⟩) ⟨?_, ?_, ?_, fun j hj => ?_⟩) (fun q hq => gCp_c (by omega)))
        · unfold gCp; rw [if_pos rfl, if_neg (by omega)]
        · rw [gCp_c (by decide)]; exact x1
        · rw [gCp_c (by decide)]; exact x2
        · rw [gCp_c (by decide)]; exact x3
        · unfold gCp
          rw [if_pos rfl]
          show va_cpy (D 46) (D 44) a bb c j = _
          by_cases e : bb ≤ j ∧ j < bb + c
          · rw [pk_cpy_in e.1 e.2, if_pos (by omega), d4 _ (by omega), show 60 * 2 + (a + (j - bb)) = 60 * 2 + a + (60 * 1 + j - (60 * 1 + bb)) by omega]
          · rw [pk_cpy_out (by omega), if_neg (by omega)]
            exact x4 j hj
      · subst ez
        have hz : (0 : Int32) ≤ 2 ∧ (2 : Int32) ≤ 3 := by decide
        obtain ⟨x1, x2, x3, x4⟩ := hs 2 (by decide)
        obtain ⟨p7, p9, p60⟩ := vok_sh hv (show 2 < 4 by decide)
        have f1 : D 45 1 = v 8 2 := x1
        have f3 : D 45 3 = 1 - v 7 2 := x3
        (repeat ((conv => whnf); (first | refine zo0 ?_ | refine zo1 ?_ | refine br_z ?_ | refine br_o ?_ | refine br_zn ?_ | refine br_on ?_ | refine nz2 ?_ | refine nz6 ?_ | refine nz32 ?_ | refine And.intro (by assumption) ?_))); (conv => whnf)
        rw [d3]
        refine ⟨fun h1 => ?_, fun h1 => ?_⟩
        · have e7 : v 7 2 = 0 := by
            rcases o7 with q | q
            · exact q
            · rw [q] at h1; exact absurd (by decide) h1
          have kk := hK (am_up D 0 16 1) L (fc_up (by decide) fc_rf)
          unfold qCopy gCopy at kk
          rw [if_pos hx, if_pos hx, if_pos hz, if_pos hz, cN_2, if_pos e7, if_pos e7] at kk
          (repeat ((conv => whnf); (first | refine zo0 ?_ | refine zo1 ?_ | refine br_z ?_ | refine br_o ?_ | refine br_zn ?_ | refine br_on ?_ | refine nz2 ?_ | refine nz6 ?_ | refine nz32 ?_ | refine And.intro (by assumption) ?_))); (conv => whnf)
          exact kk (ix_find hi)
        have e7 : ¬ v 7 2 = 0 := fun q => by rw [q] at h1; exact absurd h1 (by decide)
        (repeat ((conv => whnf); (first | refine zo0 ?_ | refine zo1 ?_ | refine br_z ?_ | refine br_o ?_ | refine br_zn ?_ | refine br_on ?_ | refine nz2 ?_ | refine nz6 ?_ | refine nz32 ?_ | refine And.intro (by assumption) ?_))); (conv => whnf)
        rw [f3]
        refine ⟨fun h2 => ?_, fun h2 => ?_⟩
        rotate_left
        · have g7 : v 7 2 = 0 := by
            rcases p7 with q | q
            · exact q
            · rw [q] at h2; exact absurd (by decide) h2
          exact absurd g7 e7
        have g7 : ¬ v 7 2 = 0 := fun q => by rw [q] at h2; exact absurd h2 (by decide)
        (repeat ((conv => whnf); (first | refine zo0 ?_ | refine zo1 ?_ | refine br_z ?_ | refine br_o ?_ | refine br_zn ?_ | refine br_on ?_ | refine nz2 ?_ | refine nz6 ?_ | refine nz32 ?_ | refine And.intro (by assumption) ?_))); (conv => whnf)
        rw [d1]
        refine ⟨fun h3 => ?_, fun h3 => ?_⟩
        rotate_left
        · have kk := hK (am_up D 0 16 4) L (fc_up (by decide) fc_rf)
          unfold qCopy gCopy at kk
          rw [if_pos hx, if_pos hx, if_pos hz, if_pos hz, cN_2, if_neg e7, if_neg e7, if_neg g7, if_neg g7, if_neg h3, if_neg h3] at kk
          (repeat ((conv => whnf); (first | refine zo0 ?_ | refine zo1 ?_ | refine br_z ?_ | refine br_o ?_ | refine br_zn ?_ | refine br_on ?_ | refine nz2 ?_ | refine nz6 ?_ | refine nz32 ?_ | refine And.intro (by assumption) ?_))); (conv => whnf)
          exact kk (ix_find hi)
        have kbad : ¬ (hld (v 9 2) y r = true ∧ hld (v 9 2) u r = true) → K (some (.int (-12))) (am_up D 0 16 2) L := fun q => by
          have kk := hK (am_up D 0 16 2) L (fc_up (by decide) fc_rf)
          unfold qCopy gCopy at kk
          rw [if_pos hx, if_pos hx, if_pos hz, if_pos hz, cN_2, if_neg e7, if_neg e7, if_neg g7, if_neg g7, if_pos h3, if_pos h3, if_neg q, if_neg q] at kk
          exact kk (ix_find hi)
        have kgood : (hld (v 9 2) y r = true ∧ hld (v 9 2) u r = true) → ∀ D', fc D D' → ix D' (gCp v 2 (cN y) 2 (cN u) (cN r)) → K (some (.int 1)) D' L := fun q D' f => by
          have kk := hK D' L f
          unfold qCopy gCopy at kk
          rw [if_pos hx, if_pos hx, if_pos hz, if_pos hz, cN_2, if_neg e7, if_neg e7, if_neg g7, if_neg g7, if_pos h3, if_pos h3, if_pos q, if_pos q] at kk
          exact kk
        (repeat ((conv => whnf); (first | refine zo0 ?_ | refine zo1 ?_ | refine br_z ?_ | refine br_o ?_ | refine br_zn ?_ | refine br_on ?_ | refine nz2 ?_ | refine nz6 ?_ | refine nz32 ?_ | refine And.intro (by assumption) ?_))); (conv => whnf)
        refine ⟨v, 2, hv, hs, Or.inr (Or.inr (Or.inl ⟨rfl, rfl⟩)), fun r1 hr1 => ?_⟩
        rcases hr1 with ⟨t1, rfl⟩ | ⟨t1, rfl⟩
        rotate_left
        · have kk := kbad (fun q => by rw [t1] at q; exact absurd q.1 (by decide))
          (repeat ((conv => whnf); (first | refine zo0 ?_ | refine zo1 ?_ | refine br_z ?_ | refine br_o ?_ | refine br_zn ?_ | refine br_on ?_ | refine nz2 ?_ | refine nz6 ?_ | refine nz32 ?_ | refine And.intro (by assumption) ?_))); (conv => whnf)
          exact kk
        (repeat ((conv => whnf); (first | refine zo0 ?_ | refine zo1 ?_ | refine br_z ?_ | refine br_o ?_ | refine br_zn ?_ | refine br_on ?_ | refine nz2 ?_ | refine nz6 ?_ | refine nz32 ?_ | refine And.intro (by assumption) ?_))); (conv => whnf)
        refine ⟨v, 2, hv, hs, Or.inr (Or.inr (Or.inl ⟨rfl, rfl⟩)), fun r2 hr2 => ?_⟩
        rcases hr2 with ⟨t2, rfl⟩ | ⟨t2, rfl⟩
        rotate_left
        · have kk := kbad (fun q => by rw [t2] at q; exact absurd q.2 (by decide))
          (repeat ((conv => whnf); (first | refine zo0 ?_ | refine zo1 ?_ | refine br_z ?_ | refine br_o ?_ | refine br_zn ?_ | refine br_on ?_ | refine nz2 ?_ | refine nz6 ?_ | refine nz32 ?_ | refine And.intro (by assumption) ?_))); (conv => whnf)
          exact kk
        have kk := kgood ⟨t1, t2⟩
        have ny : ¬ y < 0 := fun q => by rw [hld_i q] at t1; exact absurd t1 (by decide)
        have nu : ¬ u < 0 := fun q => by rw [hld_i q] at t2; exact absurd t2 (by decide)
        have nr : ¬ r < 0 := fun q => by rw [hld_n q] at t1; exact absurd t1 (by decide)
        obtain ⟨a, ha, ea⟩ := nI_of ny
        obtain ⟨bb, hbb, eb⟩ := nI_of nu
        obtain ⟨c, hc, ec⟩ := nI_of nr
        subst ea eb ec
        rw [o9, hld_N (by omega) ha hc] at t1
        rw [p9, hld_N (by omega) hbb hc] at t2
        rw [cN_nI ha, cN_nI hbb, cN_nI hc] at kk
        (repeat ((conv => whnf); (first | refine zo0 ?_ | refine zo1 ?_ | refine br_z ?_ | refine br_o ?_ | refine br_zn ?_ | refine br_on ?_ | refine nz2 ?_ | refine nz6 ?_ | refine nz32 ?_ | refine And.intro (by assumption) ?_))); (conv => whnf)
        refine ⟨⟨rfl, rfl, ny, nu, nr, ?_, ?_⟩, ?_⟩
        · rw [nI_clamp ha, nI_clamp hc]; show a + c ≤ 60; omega
        · rw [nI_clamp hbb, nI_clamp hc]; show bb + c ≤ 60; omega
        rw [nI_clamp ha, nI_clamp hbb, nI_clamp hc]
        have kk := kk (am_upA D 46 (va_cpy (D 46) (D 46) a bb c)) (fun q hq => by simp only [am_upA]; rw [if_neg (by omega)])
        (repeat ((conv => whnf); (first | refine zo0 ?_ | refine zo1 ?_ | refine br_z ?_ | refine br_o ?_ | refine br_zn ?_ | refine br_on ?_ | refine nz2 ?_ | refine nz6 ?_ | refine nz32 ?_ | refine And.intro (by assumption) ?_))); (conv => whnf)
        refine kk (ix_sh hi (fun q hq => by simp only [am_upA]; rw [if_neg (by omega)]) (ish_mk (s := 2) hs (fun q h1 h2 => by simp only [am_upA]; rw [if_neg (by omega)]) (fun q hq => ⟨by rw [gCp_c (by decide)], by rw [gCp_c (by decide)], by rw [gCp_c (by decide)], fun j hj => ?_⟩) ⟨?_, ?_, ?_, fun j hj => ?_⟩) (fun q hq => gCp_c (by omega)))
        · unfold gCp; rw [if_pos rfl, if_neg (by omega)]
        · rw [gCp_c (by decide)]; exact x1
        · rw [gCp_c (by decide)]; exact x2
        · rw [gCp_c (by decide)]; exact x3
        · unfold gCp
          rw [if_pos rfl]
          show va_cpy (D 46) (D 46) a bb c j = _
          by_cases e : bb ≤ j ∧ j < bb + c
          · rw [pk_cpy_in e.1 e.2, if_pos (by omega), d4 _ (by omega), show 60 * 2 + (a + (j - bb)) = 60 * 2 + a + (60 * 2 + j - (60 * 2 + bb)) by omega]
          · rw [pk_cpy_out (by omega), if_neg (by omega)]
            exact x4 j hj
      · subst ez
        have hz : (0 : Int32) ≤ 3 ∧ (3 : Int32) ≤ 3 := by decide
        obtain ⟨x1, x2, x3, x4⟩ := hs 3 (by decide)
        obtain ⟨p7, p9, p60⟩ := vok_sh hv (show 3 < 4 by decide)
        have f1 : D 47 1 = v 8 3 := x1
        have f3 : D 47 3 = 1 - v 7 3 := x3
        (repeat ((conv => whnf); (first | refine zo0 ?_ | refine zo1 ?_ | refine br_z ?_ | refine br_o ?_ | refine br_zn ?_ | refine br_on ?_ | refine nz2 ?_ | refine nz6 ?_ | refine nz32 ?_ | refine And.intro (by assumption) ?_))); (conv => whnf)
        rw [d3]
        refine ⟨fun h1 => ?_, fun h1 => ?_⟩
        · have e7 : v 7 2 = 0 := by
            rcases o7 with q | q
            · exact q
            · rw [q] at h1; exact absurd (by decide) h1
          have kk := hK (am_up D 0 16 1) L (fc_up (by decide) fc_rf)
          unfold qCopy gCopy at kk
          rw [if_pos hx, if_pos hx, if_pos hz, if_pos hz, cN_2, cN_3, if_pos e7, if_pos e7] at kk
          (repeat ((conv => whnf); (first | refine zo0 ?_ | refine zo1 ?_ | refine br_z ?_ | refine br_o ?_ | refine br_zn ?_ | refine br_on ?_ | refine nz2 ?_ | refine nz6 ?_ | refine nz32 ?_ | refine And.intro (by assumption) ?_))); (conv => whnf)
          exact kk (ix_find hi)
        have e7 : ¬ v 7 2 = 0 := fun q => by rw [q] at h1; exact absurd h1 (by decide)
        (repeat ((conv => whnf); (first | refine zo0 ?_ | refine zo1 ?_ | refine br_z ?_ | refine br_o ?_ | refine br_zn ?_ | refine br_on ?_ | refine nz2 ?_ | refine nz6 ?_ | refine nz32 ?_ | refine And.intro (by assumption) ?_))); (conv => whnf)
        rw [f3]
        refine ⟨fun h2 => ?_, fun h2 => ?_⟩
        rotate_left
        · have g7 : v 7 3 = 0 := by
            rcases p7 with q | q
            · exact q
            · rw [q] at h2; exact absurd (by decide) h2
          have kk := hK (am_up D 0 16 1) L (fc_up (by decide) fc_rf)
          unfold qCopy gCopy at kk
          rw [if_pos hx, if_pos hx, if_pos hz, if_pos hz, cN_2, cN_3, if_neg e7, if_neg e7, if_pos g7, if_pos g7] at kk
          (repeat ((conv => whnf); (first | refine zo0 ?_ | refine zo1 ?_ | refine br_z ?_ | refine br_o ?_ | refine br_zn ?_ | refine br_on ?_ | refine nz2 ?_ | refine nz6 ?_ | refine nz32 ?_ | refine And.intro (by assumption) ?_))); (conv => whnf)
          exact kk (ix_find hi)
        have g7 : ¬ v 7 3 = 0 := fun q => by rw [q] at h2; exact absurd h2 (by decide)
        (repeat ((conv => whnf); (first | refine zo0 ?_ | refine zo1 ?_ | refine br_z ?_ | refine br_o ?_ | refine br_zn ?_ | refine br_on ?_ | refine nz2 ?_ | refine nz6 ?_ | refine nz32 ?_ | refine And.intro (by assumption) ?_))); (conv => whnf)
        rw [d1, f1]
        refine ⟨fun h3 => ?_, fun h3 => ?_⟩
        rotate_left
        · have kk := hK (am_up D 0 16 4) L (fc_up (by decide) fc_rf)
          unfold qCopy gCopy at kk
          rw [if_pos hx, if_pos hx, if_pos hz, if_pos hz, cN_2, cN_3, if_neg e7, if_neg e7, if_neg g7, if_neg g7, if_neg h3, if_neg h3] at kk
          (repeat ((conv => whnf); (first | refine zo0 ?_ | refine zo1 ?_ | refine br_z ?_ | refine br_o ?_ | refine br_zn ?_ | refine br_on ?_ | refine nz2 ?_ | refine nz6 ?_ | refine nz32 ?_ | refine And.intro (by assumption) ?_))); (conv => whnf)
          exact kk (ix_find hi)
        have kbad : ¬ (hld (v 9 2) y r = true ∧ hld (v 9 3) u r = true) → K (some (.int (-12))) (am_up D 0 16 2) L := fun q => by
          have kk := hK (am_up D 0 16 2) L (fc_up (by decide) fc_rf)
          unfold qCopy gCopy at kk
          rw [if_pos hx, if_pos hx, if_pos hz, if_pos hz, cN_2, cN_3, if_neg e7, if_neg e7, if_neg g7, if_neg g7, if_pos h3, if_pos h3, if_neg q, if_neg q] at kk
          exact kk (ix_find hi)
        have kgood : (hld (v 9 2) y r = true ∧ hld (v 9 3) u r = true) → ∀ D', fc D D' → ix D' (gCp v 2 (cN y) 3 (cN u) (cN r)) → K (some (.int 1)) D' L := fun q D' f => by
          have kk := hK D' L f
          unfold qCopy gCopy at kk
          rw [if_pos hx, if_pos hx, if_pos hz, if_pos hz, cN_2, cN_3, if_neg e7, if_neg e7, if_neg g7, if_neg g7, if_pos h3, if_pos h3, if_pos q, if_pos q] at kk
          exact kk
        (repeat ((conv => whnf); (first | refine zo0 ?_ | refine zo1 ?_ | refine br_z ?_ | refine br_o ?_ | refine br_zn ?_ | refine br_on ?_ | refine nz2 ?_ | refine nz6 ?_ | refine nz32 ?_ | refine And.intro (by assumption) ?_))); (conv => whnf)
        refine ⟨v, 2, hv, hs, Or.inr (Or.inr (Or.inl ⟨rfl, rfl⟩)), fun r1 hr1 => ?_⟩
        rcases hr1 with ⟨t1, rfl⟩ | ⟨t1, rfl⟩
        rotate_left
        · have kk := kbad (fun q => by rw [t1] at q; exact absurd q.1 (by decide))
          (repeat ((conv => whnf); (first | refine zo0 ?_ | refine zo1 ?_ | refine br_z ?_ | refine br_o ?_ | refine br_zn ?_ | refine br_on ?_ | refine nz2 ?_ | refine nz6 ?_ | refine nz32 ?_ | refine And.intro (by assumption) ?_))); (conv => whnf)
          exact kk
        (repeat ((conv => whnf); (first | refine zo0 ?_ | refine zo1 ?_ | refine br_z ?_ | refine br_o ?_ | refine br_zn ?_ | refine br_on ?_ | refine nz2 ?_ | refine nz6 ?_ | refine nz32 ?_ | refine And.intro (by assumption) ?_))); (conv => whnf)
        refine ⟨v, 3, hv, hs, Or.inr (Or.inr (Or.inr ⟨rfl, rfl⟩)), fun r2 hr2 => ?_⟩
        rcases hr2 with ⟨t2, rfl⟩ | ⟨t2, rfl⟩
        rotate_left
        · have kk := kbad (fun q => by rw [t2] at q; exact absurd q.2 (by decide))
          (repeat ((conv => whnf); (first | refine zo0 ?_ | refine zo1 ?_ | refine br_z ?_ | refine br_o ?_ | refine br_zn ?_ | refine br_on ?_ | refine nz2 ?_ | refine nz6 ?_ | refine nz32 ?_ | refine And.intro (by assumption) ?_))); (conv => whnf)
          exact kk
        have kk := kgood ⟨t1, t2⟩
        have ny : ¬ y < 0 := fun q => by rw [hld_i q] at t1; exact absurd t1 (by decide)
        have nu : ¬ u < 0 := fun q => by rw [hld_i q] at t2; exact absurd t2 (by decide)
        have nr : ¬ r < 0 := fun q => by rw [hld_n q] at t1; exact absurd t1 (by decide)
        obtain ⟨a, ha, ea⟩ := nI_of ny
        obtain ⟨bb, hbb, eb⟩ := nI_of nu
        obtain ⟨c, hc, ec⟩ := nI_of nr
        subst ea eb ec
        rw [o9, hld_N (by omega) ha hc] at t1
        rw [p9, hld_N (by omega) hbb hc] at t2
        rw [cN_nI ha, cN_nI hbb, cN_nI hc] at kk
        (repeat ((conv => whnf); (first | refine zo0 ?_ | refine zo1 ?_ | refine br_z ?_ | refine br_o ?_ | refine br_zn ?_ | refine br_on ?_ | refine nz2 ?_ | refine nz6 ?_ | refine nz32 ?_ | refine And.intro (by assumption) ?_))); (conv => whnf)
        refine ⟨⟨rfl, rfl, ny, nu, nr, ?_, ?_⟩, ?_⟩
        · rw [nI_clamp ha, nI_clamp hc]; show a + c ≤ 60; omega
        · rw [nI_clamp hbb, nI_clamp hc]; show bb + c ≤ 60; omega
        rw [nI_clamp ha, nI_clamp hbb, nI_clamp hc]
        have kk := kk (am_upA D 48 (va_cpy (D 46) (D 48) a bb c)) (fun q hq => by simp only [am_upA]; rw [if_neg (by omega)])
        (repeat ((conv => whnf); (first | refine zo0 ?_ | refine zo1 ?_ | refine br_z ?_ | refine br_o ?_ | refine br_zn ?_ | refine br_on ?_ | refine nz2 ?_ | refine nz6 ?_ | refine nz32 ?_ | refine And.intro (by assumption) ?_))); (conv => whnf)
        refine kk (ix_sh hi (fun q hq => by simp only [am_upA]; rw [if_neg (by omega)]) (ish_mk (s := 3) hs (fun q h1 h2 => by simp only [am_upA]; rw [if_neg (by omega)]) (fun q hq => ⟨by rw [gCp_c (by decide)], by rw [gCp_c (by decide)], by rw [gCp_c (by decide)], fun j hj => ?_⟩) ⟨?_, ?_, ?_, fun j hj => ?_⟩) (fun q hq => gCp_c (by omega)))
        · unfold gCp; rw [if_pos rfl, if_neg (by omega)]
        · rw [gCp_c (by decide)]; exact x1
        · rw [gCp_c (by decide)]; exact x2
        · rw [gCp_c (by decide)]; exact x3
        · unfold gCp
          rw [if_pos rfl]
          show va_cpy (D 46) (D 48) a bb c j = _
          by_cases e : bb ≤ j ∧ j < bb + c
          · rw [pk_cpy_in e.1 e.2, if_pos (by omega), d4 _ (by omega), show 60 * 2 + (a + (j - bb)) = 60 * 2 + a + (60 * 3 + j - (60 * 3 + bb)) by omega]
          · rw [pk_cpy_out (by omega), if_neg (by omega)]
            exact x4 j hj
      · have kk := kb (fun q => ez q.2)
        (repeat ((conv => whnf); (first | refine zo0 ?_ | refine zo1 ?_ | refine br_z ?_ | refine br_o ?_ | refine br_zn ?_ | refine br_on ?_ | refine nz2 ?_ | refine nz6 ?_ | refine nz32 ?_ | refine And.intro (by assumption) ?_))); (conv => whnf)
        exact kk
    · subst ex
      have hx : (0 : Int32) ≤ 3 ∧ (3 : Int32) ≤ 3 := by decide
      obtain ⟨w1, w2, w3, w4⟩ := hs 3 (by decide)
      obtain ⟨o7, o9, o60⟩ := vok_sh hv (show 3 < 4 by decide)
      have d1 : D 47 1 = v 8 3 := w1
      have d2 : D 47 2 = nI (vn v 9 3) := w2.trans o9
      have d3 : D 47 3 = 1 - v 7 3 := w3
      have d4 : ∀ i, i < 60 → D 48 i = v 10 (60 * 3 + i) := w4
      (repeat ((conv => whnf); (first | refine zo0 ?_ | refine zo1 ?_ | refine br_z ?_ | refine br_o ?_ | refine br_zn ?_ | refine br_on ?_ | refine nz2 ?_ | refine nz6 ?_ | refine nz32 ?_ | refine And.intro (by assumption) ?_))); (conv => whnf)
      refine ⟨fun ez => ?_, fun ez => ?_, fun ez => ?_, fun ez => ?_, fun ez => ?_⟩
      · subst ez
        have hz : (0 : Int32) ≤ 0 ∧ (0 : Int32) ≤ 3 := by decide
        obtain ⟨x1, x2, x3, x4⟩ := hs 0 (by decide)
        obtain ⟨p7, p9, p60⟩ := vok_sh hv (show 0 < 4 by decide)
        have f1 : D 41 1 = v 8 0 := x1
        have f3 : D 41 3 = 1 - v 7 0 := x3
        (repeat ((conv => whnf); (first | refine zo0 ?_ | refine zo1 ?_ | refine br_z ?_ | refine br_o ?_ | refine br_zn ?_ | refine br_on ?_ | refine nz2 ?_ | refine nz6 ?_ | refine nz32 ?_ | refine And.intro (by assumption) ?_))); (conv => whnf)
        rw [d3]
        refine ⟨fun h1 => ?_, fun h1 => ?_⟩
        · have e7 : v 7 3 = 0 := by
            rcases o7 with q | q
            · exact q
            · rw [q] at h1; exact absurd (by decide) h1
          have kk := hK (am_up D 0 16 1) L (fc_up (by decide) fc_rf)
          unfold qCopy gCopy at kk
          rw [if_pos hx, if_pos hx, if_pos hz, if_pos hz, cN_3, cN_0, if_pos e7, if_pos e7] at kk
          (repeat ((conv => whnf); (first | refine zo0 ?_ | refine zo1 ?_ | refine br_z ?_ | refine br_o ?_ | refine br_zn ?_ | refine br_on ?_ | refine nz2 ?_ | refine nz6 ?_ | refine nz32 ?_ | refine And.intro (by assumption) ?_))); (conv => whnf)
          exact kk (ix_find hi)
        have e7 : ¬ v 7 3 = 0 := fun q => by rw [q] at h1; exact absurd h1 (by decide)
        (repeat ((conv => whnf); (first | refine zo0 ?_ | refine zo1 ?_ | refine br_z ?_ | refine br_o ?_ | refine br_zn ?_ | refine br_on ?_ | refine nz2 ?_ | refine nz6 ?_ | refine nz32 ?_ | refine And.intro (by assumption) ?_))); (conv => whnf)
        rw [f3]
        refine ⟨fun h2 => ?_, fun h2 => ?_⟩
        rotate_left
        · have g7 : v 7 0 = 0 := by
            rcases p7 with q | q
            · exact q
            · rw [q] at h2; exact absurd (by decide) h2
          have kk := hK (am_up D 0 16 1) L (fc_up (by decide) fc_rf)
          unfold qCopy gCopy at kk
          rw [if_pos hx, if_pos hx, if_pos hz, if_pos hz, cN_3, cN_0, if_neg e7, if_neg e7, if_pos g7, if_pos g7] at kk
          (repeat ((conv => whnf); (first | refine zo0 ?_ | refine zo1 ?_ | refine br_z ?_ | refine br_o ?_ | refine br_zn ?_ | refine br_on ?_ | refine nz2 ?_ | refine nz6 ?_ | refine nz32 ?_ | refine And.intro (by assumption) ?_))); (conv => whnf)
          exact kk (ix_find hi)
        have g7 : ¬ v 7 0 = 0 := fun q => by rw [q] at h2; exact absurd h2 (by decide)
        (repeat ((conv => whnf); (first | refine zo0 ?_ | refine zo1 ?_ | refine br_z ?_ | refine br_o ?_ | refine br_zn ?_ | refine br_on ?_ | refine nz2 ?_ | refine nz6 ?_ | refine nz32 ?_ | refine And.intro (by assumption) ?_))); (conv => whnf)
        rw [d1, f1]
        refine ⟨fun h3 => ?_, fun h3 => ?_⟩
        rotate_left
        · have kk := hK (am_up D 0 16 4) L (fc_up (by decide) fc_rf)
          unfold qCopy gCopy at kk
          rw [if_pos hx, if_pos hx, if_pos hz, if_pos hz, cN_3, cN_0, if_neg e7, if_neg e7, if_neg g7, if_neg g7, if_neg h3, if_neg h3] at kk
          (repeat ((conv => whnf); (first | refine zo0 ?_ | refine zo1 ?_ | refine br_z ?_ | refine br_o ?_ | refine br_zn ?_ | refine br_on ?_ | refine nz2 ?_ | refine nz6 ?_ | refine nz32 ?_ | refine And.intro (by assumption) ?_))); (conv => whnf)
          exact kk (ix_find hi)
        have kbad : ¬ (hld (v 9 3) y r = true ∧ hld (v 9 0) u r = true) → K (some (.int (-12))) (am_up D 0 16 2) L := fun q => by
          have kk := hK (am_up D 0 16 2) L (fc_up (by decide) fc_rf)
          unfold qCopy gCopy at kk
          rw [if_pos hx, if_pos hx, if_pos hz, if_pos hz, cN_3, cN_0, if_neg e7, if_neg e7, if_neg g7, if_neg g7, if_pos h3, if_pos h3, if_neg q, if_neg q] at kk
          exact kk (ix_find hi)
        have kgood : (hld (v 9 3) y r = true ∧ hld (v 9 0) u r = true) → ∀ D', fc D D' → ix D' (gCp v 3 (cN y) 0 (cN u) (cN r)) → K (some (.int 1)) D' L := fun q D' f => by
          have kk := hK D' L f
          unfold qCopy gCopy at kk
          rw [if_pos hx, if_pos hx, if_pos hz, if_pos hz, cN_3, cN_0, if_neg e7, if_neg e7, if_neg g7, if_neg g7, if_pos h3, if_pos h3, if_pos q, if_pos q] at kk
          exact kk
        (repeat ((conv => whnf); (first | refine zo0 ?_ | refine zo1 ?_ | refine br_z ?_ | refine br_o ?_ | refine br_zn ?_ | refine br_on ?_ | refine nz2 ?_ | refine nz6 ?_ | refine nz32 ?_ | refine And.intro (by assumption) ?_))); (conv => whnf)
        refine ⟨v, 3, hv, hs, Or.inr (Or.inr (Or.inr ⟨rfl, rfl⟩)), fun r1 hr1 => ?_⟩
        rcases hr1 with ⟨t1, rfl⟩ | ⟨t1, rfl⟩
        rotate_left
        · have kk := kbad (fun q => by rw [t1] at q; exact absurd q.1 (by decide))
          (repeat ((conv => whnf); (first | refine zo0 ?_ | refine zo1 ?_ | refine br_z ?_ | refine br_o ?_ | refine br_zn ?_ | refine br_on ?_ | refine nz2 ?_ | refine nz6 ?_ | refine nz32 ?_ | refine And.intro (by assumption) ?_))); (conv => whnf)
          exact kk
        (repeat ((conv => whnf); (first | refine zo0 ?_ | refine zo1 ?_ | refine br_z ?_ | refine br_o ?_ | refine br_zn ?_ | refine br_on ?_ | refine nz2 ?_ | refine nz6 ?_ | refine nz32 ?_ | refine And.intro (by assumption) ?_))); (conv => whnf)
        refine ⟨v, 0, hv, hs, Or.inl ⟨rfl, rfl⟩, fun r2 hr2 => ?_⟩
        rcases hr2 with ⟨t2, rfl⟩ | ⟨t2, rfl⟩
        rotate_left
        · have kk := kbad (fun q => by rw [t2] at q; exact absurd q.2 (by decide))
          (repeat ((conv => whnf); (first | refine zo0 ?_ | refine zo1 ?_ | refine br_z ?_ | refine br_o ?_ | refine br_zn ?_ | refine br_on ?_ | refine nz2 ?_ | refine nz6 ?_ | refine nz32 ?_ | refine And.intro (by assumption) ?_))); (conv => whnf)
          exact kk
        have kk := kgood ⟨t1, t2⟩
        have ny : ¬ y < 0 := fun q => by rw [hld_i q] at t1; exact absurd t1 (by decide)
        have nu : ¬ u < 0 := fun q => by rw [hld_i q] at t2; exact absurd t2 (by decide)
        have nr : ¬ r < 0 := fun q => by rw [hld_n q] at t1; exact absurd t1 (by decide)
        obtain ⟨a, ha, ea⟩ := nI_of ny
        obtain ⟨bb, hbb, eb⟩ := nI_of nu
        obtain ⟨c, hc, ec⟩ := nI_of nr
        subst ea eb ec
        rw [o9, hld_N (by omega) ha hc] at t1
        rw [p9, hld_N (by omega) hbb hc] at t2
        rw [cN_nI ha, cN_nI hbb, cN_nI hc] at kk
        (repeat ((conv => whnf); (first | refine zo0 ?_ | refine zo1 ?_ | refine br_z ?_ | refine br_o ?_ | refine br_zn ?_ | refine br_on ?_ | refine nz2 ?_ | refine nz6 ?_ | refine nz32 ?_ | refine And.intro (by assumption) ?_))); (conv => whnf)
        refine ⟨⟨rfl, rfl, ny, nu, nr, ?_, ?_⟩, ?_⟩
        · rw [nI_clamp ha, nI_clamp hc]; show a + c ≤ 60; omega
        · rw [nI_clamp hbb, nI_clamp hc]; show bb + c ≤ 60; omega
        rw [nI_clamp ha, nI_clamp hbb, nI_clamp hc]
        have kk := kk (am_upA D 42 (va_cpy (D 48) (D 42) a bb c)) (fun q hq => by simp only [am_upA]; rw [if_neg (by omega)])
        (repeat ((conv => whnf); (first | refine zo0 ?_ | refine zo1 ?_ | refine br_z ?_ | refine br_o ?_ | refine br_zn ?_ | refine br_on ?_ | refine nz2 ?_ | refine nz6 ?_ | refine nz32 ?_ | refine And.intro (by assumption) ?_))); (conv => whnf)
        refine kk (ix_sh hi (fun q hq => by simp only [am_upA]; rw [if_neg (by omega)]) (ish_mk (s := 0) hs (fun q h1 h2 => by simp only [am_upA]; rw [if_neg (by omega)]) (fun q hq => ⟨by rw [gCp_c (by decide)], by rw [gCp_c (by decide)], by rw [gCp_c (by decide)], fun j hj => ?_⟩) ⟨?_, ?_, ?_, fun j hj => ?_⟩) (fun q hq => gCp_c (by omega)))
        · unfold gCp; rw [if_pos rfl, if_neg (by omega)]
        · rw [gCp_c (by decide)]; exact x1
        · rw [gCp_c (by decide)]; exact x2
        · rw [gCp_c (by decide)]; exact x3
        · unfold gCp
          rw [if_pos rfl]
          show va_cpy (D 48) (D 42) a bb c j = _
          by_cases e : bb ≤ j ∧ j < bb + c
          · rw [pk_cpy_in e.1 e.2, if_pos (by omega), d4 _ (by omega), show 60 * 3 + (a + (j - bb)) = 60 * 3 + a + (60 * 0 + j - (60 * 0 + bb)) by omega]
          · rw [pk_cpy_out (by omega), if_neg (by omega)]
            exact x4 j hj
      · subst ez
        have hz : (0 : Int32) ≤ 1 ∧ (1 : Int32) ≤ 3 := by decide
        obtain ⟨x1, x2, x3, x4⟩ := hs 1 (by decide)
        obtain ⟨p7, p9, p60⟩ := vok_sh hv (show 1 < 4 by decide)
        have f1 : D 43 1 = v 8 1 := x1
        have f3 : D 43 3 = 1 - v 7 1 := x3
        (repeat ((conv => whnf); (first | refine zo0 ?_ | refine zo1 ?_ | refine br_z ?_ | refine br_o ?_ | refine br_zn ?_ | refine br_on ?_ | refine nz2 ?_ | refine nz6 ?_ | refine nz32 ?_ | refine And.intro (by assumption) ?_))); (conv => whnf)
        rw [d3]
        refine ⟨fun h1 => ?_, fun h1 => ?_⟩
        · have e7 : v 7 3 = 0 := by
            rcases o7 with q | q
            · exact q
            · rw [q] at h1; exact absurd (by decide) h1
          have kk := hK (am_up D 0 16 1) L (fc_up (by decide) fc_rf)
          unfold qCopy gCopy at kk
          rw [if_pos hx, if_pos hx, if_pos hz, if_pos hz, cN_3, cN_1, if_pos e7, if_pos e7] at kk
          (repeat ((conv => whnf); (first | refine zo0 ?_ | refine zo1 ?_ | refine br_z ?_ | refine br_o ?_ | refine br_zn ?_ | refine br_on ?_ | refine nz2 ?_ | refine nz6 ?_ | refine nz32 ?_ | refine And.intro (by assumption) ?_))); (conv => whnf)
          exact kk (ix_find hi)
        have e7 : ¬ v 7 3 = 0 := fun q => by rw [q] at h1; exact absurd h1 (by decide)
        (repeat ((conv => whnf); (first | refine zo0 ?_ | refine zo1 ?_ | refine br_z ?_ | refine br_o ?_ | refine br_zn ?_ | refine br_on ?_ | refine nz2 ?_ | refine nz6 ?_ | refine nz32 ?_ | refine And.intro (by assumption) ?_))); (conv => whnf)
        rw [f3]
        refine ⟨fun h2 => ?_, fun h2 => ?_⟩
        rotate_left
        · have g7 : v 7 1 = 0 := by
            rcases p7 with q | q
            · exact q
            · rw [q] at h2; exact absurd (by decide) h2
          have kk := hK (am_up D 0 16 1) L (fc_up (by decide) fc_rf)
          unfold qCopy gCopy at kk
          rw [if_pos hx, if_pos hx, if_pos hz, if_pos hz, cN_3, cN_1, if_neg e7, if_neg e7, if_pos g7, if_pos g7] at kk
          (repeat ((conv => whnf); (first | refine zo0 ?_ | refine zo1 ?_ | refine br_z ?_ | refine br_o ?_ | refine br_zn ?_ | refine br_on ?_ | refine nz2 ?_ | refine nz6 ?_ | refine nz32 ?_ | refine And.intro (by assumption) ?_))); (conv => whnf)
          exact kk (ix_find hi)
        have g7 : ¬ v 7 1 = 0 := fun q => by rw [q] at h2; exact absurd h2 (by decide)
        (repeat ((conv => whnf); (first | refine zo0 ?_ | refine zo1 ?_ | refine br_z ?_ | refine br_o ?_ | refine br_zn ?_ | refine br_on ?_ | refine nz2 ?_ | refine nz6 ?_ | refine nz32 ?_ | refine And.intro (by assumption) ?_))); (conv => whnf)
        rw [d1, f1]
        refine ⟨fun h3 => ?_, fun h3 => ?_⟩
        rotate_left
        · have kk := hK (am_up D 0 16 4) L (fc_up (by decide) fc_rf)
          unfold qCopy gCopy at kk
          rw [if_pos hx, if_pos hx, if_pos hz, if_pos hz, cN_3, cN_1, if_neg e7, if_neg e7, if_neg g7, if_neg g7, if_neg h3, if_neg h3] at kk
          (repeat ((conv => whnf); (first | refine zo0 ?_ | refine zo1 ?_ | refine br_z ?_ | refine br_o ?_ | refine br_zn ?_ | refine br_on ?_ | refine nz2 ?_ | refine nz6 ?_ | refine nz32 ?_ | refine And.intro (by assumption) ?_))); (conv => whnf)
          exact kk (ix_find hi)
        have kbad : ¬ (hld (v 9 3) y r = true ∧ hld (v 9 1) u r = true) → K (some (.int (-12))) (am_up D 0 16 2) L := fun q => by
          have kk := hK (am_up D 0 16 2) L (fc_up (by decide) fc_rf)
          unfold qCopy gCopy at kk
          rw [if_pos hx, if_pos hx, if_pos hz, if_pos hz, cN_3, cN_1, if_neg e7, if_neg e7, if_neg g7, if_neg g7, if_pos h3, if_pos h3, if_neg q, if_neg q] at kk
          exact kk (ix_find hi)
        have kgood : (hld (v 9 3) y r = true ∧ hld (v 9 1) u r = true) → ∀ D', fc D D' → ix D' (gCp v 3 (cN y) 1 (cN u) (cN r)) → K (some (.int 1)) D' L := fun q D' f => by
          have kk := hK D' L f
          unfold qCopy gCopy at kk
          rw [if_pos hx, if_pos hx, if_pos hz, if_pos hz, cN_3, cN_1, if_neg e7, if_neg e7, if_neg g7, if_neg g7, if_pos h3, if_pos h3, if_pos q, if_pos q] at kk
          exact kk
        (repeat ((conv => whnf); (first | refine zo0 ?_ | refine zo1 ?_ | refine br_z ?_ | refine br_o ?_ | refine br_zn ?_ | refine br_on ?_ | refine nz2 ?_ | refine nz6 ?_ | refine nz32 ?_ | refine And.intro (by assumption) ?_))); (conv => whnf)
        refine ⟨v, 3, hv, hs, Or.inr (Or.inr (Or.inr ⟨rfl, rfl⟩)), fun r1 hr1 => ?_⟩
        rcases hr1 with ⟨t1, rfl⟩ | ⟨t1, rfl⟩
        rotate_left
        · have kk := kbad (fun q => by rw [t1] at q; exact absurd q.1 (by decide))
          (repeat ((conv => whnf); (first | refine zo0 ?_ | refine zo1 ?_ | refine br_z ?_ | refine br_o ?_ | refine br_zn ?_ | refine br_on ?_ | refine nz2 ?_ | refine nz6 ?_ | refine nz32 ?_ | refine And.intro (by assumption) ?_))); (conv => whnf)
          exact kk
        (repeat ((conv => whnf); (first | refine zo0 ?_ | refine zo1 ?_ | refine br_z ?_ | refine br_o ?_ | refine br_zn ?_ | refine br_on ?_ | refine nz2 ?_ | refine nz6 ?_ | refine nz32 ?_ | refine And.intro (by assumption) ?_))); (conv => whnf)
        refine ⟨v, 1, hv, hs, Or.inr (Or.inl ⟨rfl, rfl⟩), fun r2 hr2 => ?_⟩
        rcases hr2 with ⟨t2, rfl⟩ | ⟨t2, rfl⟩
        rotate_left
        · have kk := kbad (fun q => by rw [t2] at q; exact absurd q.2 (by decide))
          (repeat ((conv => whnf); (first | refine zo0 ?_ | refine zo1 ?_ | refine br_z ?_ | refine br_o ?_ | refine br_zn ?_ | refine br_on ?_ | refine nz2 ?_ | refine nz6 ?_ | refine nz32 ?_ | refine And.intro (by assumption) ?_))); (conv => whnf)
          exact kk
        have kk := kgood ⟨t1, t2⟩
        have ny : ¬ y < 0 := fun q => by rw [hld_i q] at t1; exact absurd t1 (by decide)
        have nu : ¬ u < 0 := fun q => by rw [hld_i q] at t2; exact absurd t2 (by decide)
        have nr : ¬ r < 0 := fun q => by rw [hld_n q] at t1; exact absurd t1 (by decide)
        obtain ⟨a, ha, ea⟩ := nI_of ny
        obtain ⟨bb, hbb, eb⟩ := nI_of nu
        obtain ⟨c, hc, ec⟩ := nI_of nr
        subst ea eb ec
        rw [o9, hld_N (by omega) ha hc] at t1
        rw [p9, hld_N (by omega) hbb hc] at t2
        rw [cN_nI ha, cN_nI hbb, cN_nI hc] at kk
        (repeat ((conv => whnf); (first | refine zo0 ?_ | refine zo1 ?_ | refine br_z ?_ | refine br_o ?_ | refine br_zn ?_ | refine br_on ?_ | refine nz2 ?_ | refine nz6 ?_ | refine nz32 ?_ | refine And.intro (by assumption) ?_))); (conv => whnf)
        refine ⟨⟨rfl, rfl, ny, nu, nr, ?_, ?_⟩, ?_⟩
        · rw [nI_clamp ha, nI_clamp hc]; show a + c ≤ 60; omega
        · rw [nI_clamp hbb, nI_clamp hc]; show bb + c ≤ 60; omega
        rw [nI_clamp ha, nI_clamp hbb, nI_clamp hc]
        have kk := kk (am_upA D 44 (va_cpy (D 48) (D 44) a bb c)) (fun q hq => by simp only [am_upA]; rw [if_neg (by omega)])
        (repeat ((conv => whnf); (first | refine zo0 ?_ | refine zo1 ?_ | refine br_z ?_ | refine br_o ?_ | refine br_zn ?_ | refine br_on ?_ | refine nz2 ?_ | refine nz6 ?_ | refine nz32 ?_ | refine And.intro (by assumption) ?_))); (conv => whnf)
        refine kk (ix_sh hi (fun q hq => by simp only [am_upA]; rw [if_neg (by omega)]) (ish_mk (s := 1) hs (fun q h1 h2 => by simp only [am_upA]; rw [if_neg (by omega)]) (fun q hq => ⟨by rw [gCp_c (by decide)], by rw [gCp_c (by decide)], by rw [gCp_c (by decide)], fun j hj => ?_⟩) ⟨?_, ?_, ?_, fun j hj => ?_⟩) (fun q hq => gCp_c (by omega)))
        · unfold gCp; rw [if_pos rfl, if_neg (by omega)]
        · rw [gCp_c (by decide)]; exact x1
        · rw [gCp_c (by decide)]; exact x2
        · rw [gCp_c (by decide)]; exact x3
        · unfold gCp
          rw [if_pos rfl]
          show va_cpy (D 48) (D 44) a bb c j = _
          by_cases e : bb ≤ j ∧ j < bb + c
          · rw [pk_cpy_in e.1 e.2, if_pos (by omega), d4 _ (by omega), show 60 * 3 + (a + (j - bb)) = 60 * 3 + a + (60 * 1 + j - (60 * 1 + bb)) by omega]
          · rw [pk_cpy_out (by omega), if_neg (by omega)]
            exact x4 j hj
      · subst ez
        have hz : (0 : Int32) ≤ 2 ∧ (2 : Int32) ≤ 3 := by decide
        obtain ⟨x1, x2, x3, x4⟩ := hs 2 (by decide)
        obtain ⟨p7, p9, p60⟩ := vok_sh hv (show 2 < 4 by decide)
        have f1 : D 45 1 = v 8 2 := x1
        have f3 : D 45 3 = 1 - v 7 2 := x3
        (repeat ((conv => whnf); (first | refine zo0 ?_ | refine zo1 ?_ | refine br_z ?_ | refine br_o ?_ | refine br_zn ?_ | refine br_on ?_ | refine nz2 ?_ | refine nz6 ?_ | refine nz32 ?_ | refine And.intro (by assumption) ?_))); (conv => whnf)
        rw [d3]
        refine ⟨fun h1 => ?_, fun h1 => ?_⟩
        · have e7 : v 7 3 = 0 := by
            rcases o7 with q | q
            · exact q
            · rw [q] at h1; exact absurd (by decide) h1
          have kk := hK (am_up D 0 16 1) L (fc_up (by decide) fc_rf)
          unfold qCopy gCopy at kk
          rw [if_pos hx, if_pos hx, if_pos hz, if_pos hz, cN_3, cN_2, if_pos e7, if_pos e7] at kk
          (repeat ((conv => whnf); (first | refine zo0 ?_ | refine zo1 ?_ | refine br_z ?_ | refine br_o ?_ | refine br_zn ?_ | refine br_on ?_ | refine nz2 ?_ | refine nz6 ?_ | refine nz32 ?_ | refine And.intro (by assumption) ?_))); (conv => whnf)
          exact kk (ix_find hi)
        have e7 : ¬ v 7 3 = 0 := fun q => by rw [q] at h1; exact absurd h1 (by decide)
        (repeat ((conv => whnf); (first | refine zo0 ?_ | refine zo1 ?_ | refine br_z ?_ | refine br_o ?_ | refine br_zn ?_ | refine br_on ?_ | refine nz2 ?_ | refine nz6 ?_ | refine nz32 ?_ | refine And.intro (by assumption) ?_))); (conv => whnf)
        rw [f3]
        refine ⟨fun h2 => ?_, fun h2 => ?_⟩
        rotate_left
        · have g7 : v 7 2 = 0 := by
            rcases p7 with q | q
            · exact q
            · rw [q] at h2; exact absurd (by decide) h2
          have kk := hK (am_up D 0 16 1) L (fc_up (by decide) fc_rf)
          unfold qCopy gCopy at kk
          rw [if_pos hx, if_pos hx, if_pos hz, if_pos hz, cN_3, cN_2, if_neg e7, if_neg e7, if_pos g7, if_pos g7] at kk
          (repeat ((conv => whnf); (first | refine zo0 ?_ | refine zo1 ?_ | refine br_z ?_ | refine br_o ?_ | refine br_zn ?_ | refine br_on ?_ | refine nz2 ?_ | refine nz6 ?_ | refine nz32 ?_ | refine And.intro (by assumption) ?_))); (conv => whnf)
          exact kk (ix_find hi)
        have g7 : ¬ v 7 2 = 0 := fun q => by rw [q] at h2; exact absurd h2 (by decide)
        (repeat ((conv => whnf); (first | refine zo0 ?_ | refine zo1 ?_ | refine br_z ?_ | refine br_o ?_ | refine br_zn ?_ | refine br_on ?_ | refine nz2 ?_ | refine nz6 ?_ | refine nz32 ?_ | refine And.intro (by assumption) ?_))); (conv => whnf)
        rw [d1, f1]
        refine ⟨fun h3 => ?_, fun h3 => ?_⟩
        rotate_left
        · have kk := hK (am_up D 0 16 4) L (fc_up (by decide) fc_rf)
          unfold qCopy gCopy at kk
          rw [if_pos hx, if_pos hx, if_pos hz, if_pos hz, cN_3, cN_2, if_neg e7, if_neg e7, if_neg g7, if_neg g7, if_neg h3, if_neg h3] at kk
          (repeat ((conv => whnf); (first | refine zo0 ?_ | refine zo1 ?_ | refine br_z ?_ | refine br_o ?_ | refine br_zn ?_ | refine br_on ?_ | refine nz2 ?_ | refine nz6 ?_ | refine nz32 ?_ | refine And.intro (by assumption) ?_))); (conv => whnf)
          exact kk (ix_find hi)
        have kbad : ¬ (hld (v 9 3) y r = true ∧ hld (v 9 2) u r = true) → K (some (.int (-12))) (am_up D 0 16 2) L := fun q => by
          have kk := hK (am_up D 0 16 2) L (fc_up (by decide) fc_rf)
          unfold qCopy gCopy at kk
          rw [if_pos hx, if_pos hx, if_pos hz, if_pos hz, cN_3, cN_2, if_neg e7, if_neg e7, if_neg g7, if_neg g7, if_pos h3, if_pos h3, if_neg q, if_neg q] at kk
          exact kk (ix_find hi)
        have kgood : (hld (v 9 3) y r = true ∧ hld (v 9 2) u r = true) → ∀ D', fc D D' → ix D' (gCp v 3 (cN y) 2 (cN u) (cN r)) → K (some (.int 1)) D' L := fun q D' f => by
          have kk := hK D' L f
          unfold qCopy gCopy at kk
          rw [if_pos hx, if_pos hx, if_pos hz, if_pos hz, cN_3, cN_2, if_neg e7, if_neg e7, if_neg g7, if_neg g7, if_pos h3, if_pos h3, if_pos q, if_pos q] at kk
          exact kk
        (repeat ((conv => whnf); (first | refine zo0 ?_ | refine zo1 ?_ | refine br_z ?_ | refine br_o ?_ | refine br_zn ?_ | refine br_on ?_ | refine nz2 ?_ | refine nz6 ?_ | refine nz32 ?_ | refine And.intro (by assumption) ?_))); (conv => whnf)
        refine ⟨v, 3, hv, hs, Or.inr (Or.inr (Or.inr ⟨rfl, rfl⟩)), fun r1 hr1 => ?_⟩
        rcases hr1 with ⟨t1, rfl⟩ | ⟨t1, rfl⟩
        rotate_left
        · have kk := kbad (fun q => by rw [t1] at q; exact absurd q.1 (by decide))
          (repeat ((conv => whnf); (first | refine zo0 ?_ | refine zo1 ?_ | refine br_z ?_ | refine br_o ?_ | refine br_zn ?_ | refine br_on ?_ | refine nz2 ?_ | refine nz6 ?_ | refine nz32 ?_ | refine And.intro (by assumption) ?_))); (conv => whnf)
          exact kk
        (repeat ((conv => whnf); (first | refine zo0 ?_ | refine zo1 ?_ | refine br_z ?_ | refine br_o ?_ | refine br_zn ?_ | refine br_on ?_ | refine nz2 ?_ | refine nz6 ?_ | refine nz32 ?_ | refine And.intro (by assumption) ?_))); (conv => whnf)
        refine ⟨v, 2, hv, hs, Or.inr (Or.inr (Or.inl ⟨rfl, rfl⟩)), fun r2 hr2 => ?_⟩
        rcases hr2 with ⟨t2, rfl⟩ | ⟨t2, rfl⟩
        rotate_left
        · have kk := kbad (fun q => by rw [t2] at q; exact absurd q.2 (by decide))
          (repeat ((conv => whnf); (first | refine zo0 ?_ | refine zo1 ?_ | refine br_z ?_ | refine br_o ?_ | refine br_zn ?_ | refine br_on ?_ | refine nz2 ?_ | refine nz6 ?_ | refine nz32 ?_ | refine And.intro (by assumption) ?_))); (conv => whnf)
          exact kk
        have kk := kgood ⟨t1, t2⟩
        have ny : ¬ y < 0 := fun q => by rw [hld_i q] at t1; exact absurd t1 (by decide)
        have nu : ¬ u < 0 := fun q => by rw [hld_i q] at t2; exact absurd t2 (by decide)
        have nr : ¬ r < 0 := fun q => by rw [hld_n q] at t1; exact absurd t1 (by decide)
        obtain ⟨a, ha, ea⟩ := nI_of ny
        obtain ⟨bb, hbb, eb⟩ := nI_of nu
        obtain ⟨c, hc, ec⟩ := nI_of nr
        subst ea eb ec
        rw [o9, hld_N (by omega) ha hc] at t1
        rw [p9, hld_N (by omega) hbb hc] at t2
        rw [cN_nI ha, cN_nI hbb, cN_nI hc] at kk
        (repeat ((conv => whnf); (first | refine zo0 ?_ | refine zo1 ?_ | refine br_z ?_ | refine br_o ?_ | refine br_zn ?_ | refine br_on ?_ | refine nz2 ?_ | refine nz6 ?_ | refine nz32 ?_ | refine And.intro (by assumption) ?_))); (conv => whnf)
        refine ⟨⟨rfl, rfl, ny, nu, nr, ?_, ?_⟩, ?_⟩
        · rw [nI_clamp ha, nI_clamp hc]; show a + c ≤ 60; omega
        · rw [nI_clamp hbb, nI_clamp hc]; show bb + c ≤ 60; omega
        rw [nI_clamp ha, nI_clamp hbb, nI_clamp hc]
        have kk := kk (am_upA D 46 (va_cpy (D 48) (D 46) a bb c)) (fun q hq => by simp only [am_upA]; rw [if_neg (by omega)])
        (repeat ((conv => whnf); (first | refine zo0 ?_ | refine zo1 ?_ | refine br_z ?_ | refine br_o ?_ | refine br_zn ?_ | refine br_on ?_ | refine nz2 ?_ | refine nz6 ?_ | refine nz32 ?_ | refine And.intro (by assumption) ?_))); (conv => whnf)
        refine kk (ix_sh hi (fun q hq => by simp only [am_upA]; rw [if_neg (by omega)]) (ish_mk (s := 2) hs (fun q h1 h2 => by simp only [am_upA]; rw [if_neg (by omega)]) (fun q hq => ⟨by rw [gCp_c (by decide)], by rw [gCp_c (by decide)], by rw [gCp_c (by decide)], fun j hj => ?_⟩) ⟨?_, ?_, ?_, fun j hj => ?_⟩) (fun q hq => gCp_c (by omega)))
        · unfold gCp; rw [if_pos rfl, if_neg (by omega)]
        · rw [gCp_c (by decide)]; exact x1
        · rw [gCp_c (by decide)]; exact x2
        · rw [gCp_c (by decide)]; exact x3
        · unfold gCp
          rw [if_pos rfl]
          show va_cpy (D 48) (D 46) a bb c j = _
          by_cases e : bb ≤ j ∧ j < bb + c
          · rw [pk_cpy_in e.1 e.2, if_pos (by omega), d4 _ (by omega), show 60 * 3 + (a + (j - bb)) = 60 * 3 + a + (60 * 2 + j - (60 * 2 + bb)) by omega]
          · rw [pk_cpy_out (by omega), if_neg (by omega)]
            exact x4 j hj
      · subst ez
        have hz : (0 : Int32) ≤ 3 ∧ (3 : Int32) ≤ 3 := by decide
        obtain ⟨x1, x2, x3, x4⟩ := hs 3 (by decide)
        obtain ⟨p7, p9, p60⟩ := vok_sh hv (show 3 < 4 by decide)
        have f1 : D 47 1 = v 8 3 := x1
        have f3 : D 47 3 = 1 - v 7 3 := x3
        (repeat ((conv => whnf); (first | refine zo0 ?_ | refine zo1 ?_ | refine br_z ?_ | refine br_o ?_ | refine br_zn ?_ | refine br_on ?_ | refine nz2 ?_ | refine nz6 ?_ | refine nz32 ?_ | refine And.intro (by assumption) ?_))); (conv => whnf)
        rw [d3]
        refine ⟨fun h1 => ?_, fun h1 => ?_⟩
        · have e7 : v 7 3 = 0 := by
            rcases o7 with q | q
            · exact q
            · rw [q] at h1; exact absurd (by decide) h1
          have kk := hK (am_up D 0 16 1) L (fc_up (by decide) fc_rf)
          unfold qCopy gCopy at kk
          rw [if_pos hx, if_pos hx, if_pos hz, if_pos hz, cN_3, if_pos e7, if_pos e7] at kk
          (repeat ((conv => whnf); (first | refine zo0 ?_ | refine zo1 ?_ | refine br_z ?_ | refine br_o ?_ | refine br_zn ?_ | refine br_on ?_ | refine nz2 ?_ | refine nz6 ?_ | refine nz32 ?_ | refine And.intro (by assumption) ?_))); (conv => whnf)
          exact kk (ix_find hi)
        have e7 : ¬ v 7 3 = 0 := fun q => by rw [q] at h1; exact absurd h1 (by decide)
        (repeat ((conv => whnf); (first | refine zo0 ?_ | refine zo1 ?_ | refine br_z ?_ | refine br_o ?_ | refine br_zn ?_ | refine br_on ?_ | refine nz2 ?_ | refine nz6 ?_ | refine nz32 ?_ | refine And.intro (by assumption) ?_))); (conv => whnf)
        rw [f3]
        refine ⟨fun h2 => ?_, fun h2 => ?_⟩
        rotate_left
        · have g7 : v 7 3 = 0 := by
            rcases p7 with q | q
            · exact q
            · rw [q] at h2; exact absurd (by decide) h2
          exact absurd g7 e7
        have g7 : ¬ v 7 3 = 0 := fun q => by rw [q] at h2; exact absurd h2 (by decide)
        (repeat ((conv => whnf); (first | refine zo0 ?_ | refine zo1 ?_ | refine br_z ?_ | refine br_o ?_ | refine br_zn ?_ | refine br_on ?_ | refine nz2 ?_ | refine nz6 ?_ | refine nz32 ?_ | refine And.intro (by assumption) ?_))); (conv => whnf)
        rw [d1]
        refine ⟨fun h3 => ?_, fun h3 => ?_⟩
        rotate_left
        · have kk := hK (am_up D 0 16 4) L (fc_up (by decide) fc_rf)
          unfold qCopy gCopy at kk
          rw [if_pos hx, if_pos hx, if_pos hz, if_pos hz, cN_3, if_neg e7, if_neg e7, if_neg g7, if_neg g7, if_neg h3, if_neg h3] at kk
          (repeat ((conv => whnf); (first | refine zo0 ?_ | refine zo1 ?_ | refine br_z ?_ | refine br_o ?_ | refine br_zn ?_ | refine br_on ?_ | refine nz2 ?_ | refine nz6 ?_ | refine nz32 ?_ | refine And.intro (by assumption) ?_))); (conv => whnf)
          exact kk (ix_find hi)
        have kbad : ¬ (hld (v 9 3) y r = true ∧ hld (v 9 3) u r = true) → K (some (.int (-12))) (am_up D 0 16 2) L := fun q => by
          have kk := hK (am_up D 0 16 2) L (fc_up (by decide) fc_rf)
          unfold qCopy gCopy at kk
          rw [if_pos hx, if_pos hx, if_pos hz, if_pos hz, cN_3, if_neg e7, if_neg e7, if_neg g7, if_neg g7, if_pos h3, if_pos h3, if_neg q, if_neg q] at kk
          exact kk (ix_find hi)
        have kgood : (hld (v 9 3) y r = true ∧ hld (v 9 3) u r = true) → ∀ D', fc D D' → ix D' (gCp v 3 (cN y) 3 (cN u) (cN r)) → K (some (.int 1)) D' L := fun q D' f => by
          have kk := hK D' L f
          unfold qCopy gCopy at kk
          rw [if_pos hx, if_pos hx, if_pos hz, if_pos hz, cN_3, if_neg e7, if_neg e7, if_neg g7, if_neg g7, if_pos h3, if_pos h3, if_pos q, if_pos q] at kk
          exact kk
        (repeat ((conv => whnf); (first | refine zo0 ?_ | refine zo1 ?_ | refine br_z ?_ | refine br_o ?_ | refine br_zn ?_ | refine br_on ?_ | refine nz2 ?_ | refine nz6 ?_ | refine nz32 ?_ | refine And.intro (by assumption) ?_))); (conv => whnf)
        refine ⟨v, 3, hv, hs, Or.inr (Or.inr (Or.inr ⟨rfl, rfl⟩)), fun r1 hr1 => ?_⟩
        rcases hr1 with ⟨t1, rfl⟩ | ⟨t1, rfl⟩
        rotate_left
        · have kk := kbad (fun q => by rw [t1] at q; exact absurd q.1 (by decide))
          (repeat ((conv => whnf); (first | refine zo0 ?_ | refine zo1 ?_ | refine br_z ?_ | refine br_o ?_ | refine br_zn ?_ | refine br_on ?_ | refine nz2 ?_ | refine nz6 ?_ | refine nz32 ?_ | refine And.intro (by assumption) ?_))); (conv => whnf)
          exact kk
        (repeat ((conv => whnf); (first | refine zo0 ?_ | refine zo1 ?_ | refine br_z ?_ | refine br_o ?_ | refine br_zn ?_ | refine br_on ?_ | refine nz2 ?_ | refine nz6 ?_ | refine nz32 ?_ | refine And.intro (by assumption) ?_))); (conv => whnf)
        refine ⟨v, 3, hv, hs, Or.inr (Or.inr (Or.inr ⟨rfl, rfl⟩)), fun r2 hr2 => ?_⟩
        rcases hr2 with ⟨t2, rfl⟩ | ⟨t2, rfl⟩
        rotate_left
        · have kk := kbad (fun q => by rw [t2] at q; exact absurd q.2 (by decide))
          (repeat ((conv => whnf); (first | refine zo0 ?_ | refine zo1 ?_ | refine br_z ?_ | refine br_o ?_ | refine br_zn ?_ | refine br_on ?_ | refine nz2 ?_ | refine nz6 ?_ | refine nz32 ?_ | refine And.intro (by assumption) ?_))); (conv => whnf)
          exact kk
        have kk := kgood ⟨t1, t2⟩
        have ny : ¬ y < 0 := fun q => by rw [hld_i q] at t1; exact absurd t1 (by decide)
        have nu : ¬ u < 0 := fun q => by rw [hld_i q] at t2; exact absurd t2 (by decide)
        have nr : ¬ r < 0 := fun q => by rw [hld_n q] at t1; exact absurd t1 (by decide)
        obtain ⟨a, ha, ea⟩ := nI_of ny
        obtain ⟨bb, hbb, eb⟩ := nI_of nu
        obtain ⟨c, hc, ec⟩ := nI_of nr
        subst ea eb ec
        rw [o9, hld_N (by omega) ha hc] at t1
        rw [p9, hld_N (by omega) hbb hc] at t2
        rw [cN_nI ha, cN_nI hbb, cN_nI hc] at kk
        (repeat ((conv => whnf); (first | refine zo0 ?_ | refine zo1 ?_ | refine br_z ?_ | refine br_o ?_ | refine br_zn ?_ | refine br_on ?_ | refine nz2 ?_ | refine nz6 ?_ | refine nz32 ?_ | refine And.intro (by assumption) ?_))); (conv => whnf)
        refine ⟨⟨rfl, rfl, ny, nu, nr, ?_, ?_⟩, ?_⟩
        · rw [nI_clamp ha, nI_clamp hc]; show a + c ≤ 60; omega
        · rw [nI_clamp hbb, nI_clamp hc]; show bb + c ≤ 60; omega
        rw [nI_clamp ha, nI_clamp hbb, nI_clamp hc]
        have kk := kk (am_upA D 48 (va_cpy (D 48) (D 48) a bb c)) (fun q hq => by simp only [am_upA]; rw [if_neg (by omega)])
        (repeat ((conv => whnf); (first | refine zo0 ?_ | refine zo1 ?_ | refine br_z ?_ | refine br_o ?_ | refine br_zn ?_ | refine br_on ?_ | refine nz2 ?_ | refine nz6 ?_ | refine nz32 ?_ | refine And.intro (by assumption) ?_))); (conv => whnf)
        refine kk (ix_sh hi (fun q hq => by simp only [am_upA]; rw [if_neg (by omega)]) (ish_mk (s := 3) hs (fun q h1 h2 => by simp only [am_upA]; rw [if_neg (by omega)]) (fun q hq => ⟨by rw [gCp_c (by decide)], by rw [gCp_c (by decide)], by rw [gCp_c (by decide)], fun j hj => ?_⟩) ⟨?_, ?_, ?_, fun j hj => ?_⟩) (fun q hq => gCp_c (by omega)))
        · unfold gCp; rw [if_pos rfl, if_neg (by omega)]
        · rw [gCp_c (by decide)]; exact x1
        · rw [gCp_c (by decide)]; exact x2
        · rw [gCp_c (by decide)]; exact x3
        · unfold gCp
          rw [if_pos rfl]
          show va_cpy (D 48) (D 48) a bb c j = _
          by_cases e : bb ≤ j ∧ j < bb + c
          · rw [pk_cpy_in e.1 e.2, if_pos (by omega), d4 _ (by omega), show 60 * 3 + (a + (j - bb)) = 60 * 3 + a + (60 * 3 + j - (60 * 3 + bb)) by omega]
          · rw [pk_cpy_out (by omega), if_neg (by omega)]
            exact x4 j hj
      · have kk := kb (fun q => ez q.2)
        (repeat ((conv => whnf); (first | refine zo0 ?_ | refine zo1 ?_ | refine br_z ?_ | refine br_o ?_ | refine br_zn ?_ | refine br_on ?_ | refine nz2 ?_ | refine nz6 ?_ | refine nz32 ?_ | refine And.intro (by assumption) ?_))); (conv => whnf)
        exact kk
    · have kk := kb (fun q => ex q.1)
      (repeat ((conv => whnf); (first | refine zo0 ?_ | refine zo1 ?_ | refine br_z ?_ | refine br_o ?_ | refine br_zn ?_ | refine br_on ?_ | refine nz2 ?_ | refine nz6 ?_ | refine nz32 ?_ | refine And.intro (by assumption) ?_))); (conv => whnf)
      refine ⟨fun ez => ?_, fun ez => ?_, fun ez => ?_, fun ez => ?_, fun ez => ?_⟩
      · (repeat ((conv => whnf); (first | refine zo0 ?_ | refine zo1 ?_ | refine br_z ?_ | refine br_o ?_ | refine br_zn ?_ | refine br_on ?_ | refine nz2 ?_ | refine nz6 ?_ | refine nz32 ?_ | refine And.intro (by assumption) ?_))); (conv => whnf)
        exact kk
      · (repeat ((conv => whnf); (first | refine zo0 ?_ | refine zo1 ?_ | refine br_z ?_ | refine br_o ?_ | refine br_zn ?_ | refine br_on ?_ | refine nz2 ?_ | refine nz6 ?_ | refine nz32 ?_ | refine And.intro (by assumption) ?_))); (conv => whnf)
        exact kk
      · (repeat ((conv => whnf); (first | refine zo0 ?_ | refine zo1 ?_ | refine br_z ?_ | refine br_o ?_ | refine br_zn ?_ | refine br_on ?_ | refine nz2 ?_ | refine nz6 ?_ | refine nz32 ?_ | refine And.intro (by assumption) ?_))); (conv => whnf)
        exact kk
      · (repeat ((conv => whnf); (first | refine zo0 ?_ | refine zo1 ?_ | refine br_z ?_ | refine br_o ?_ | refine br_zn ?_ | refine br_on ?_ | refine nz2 ?_ | refine nz6 ?_ | refine nz32 ?_ | refine And.intro (by assumption) ?_))); (conv => whnf)
        exact kk
      · (repeat ((conv => whnf); (first | refine zo0 ?_ | refine zo1 ?_ | refine br_z ?_ | refine br_o ?_ | refine br_zn ?_ | refine br_on ?_ | refine nz2 ?_ | refine nz6 ?_ | refine nz32 ?_ | refine And.intro (by assumption) ?_))); (conv => whnf)
        exact kk
  · exact absurd h id
theorem clX_copy (l : Launch) : ∀ (a : Nat) (ins : Instr) (b dd : Nat), csX_copy[a]? = some (ins, b, dd) → am_Call l yX_copy.cls 1 ins b dd (fnX_copy a) := by
  intro a ins b dd h
  match a, h with
  | 0, h => cases h; exact am_callV (T := F_10) (N := 17) (okX_sheetOf l) wcX_sheetOf (am_m2 (i := 238) rfl rfl) wiX_sheetOf wsX_sheetOf inX rfl (by decide) (by decide +kernel) (by decide) (by decide)
  | 1, h => cases h; exact am_callV (T := F_10) (N := 17) (okX_found l) wcX_found (am_m3 (i := 2) rfl rfl) wiX_found wsX_found inX rfl (by decide) (by decide +kernel) (by decide) (by decide)
  | 2, h => cases h; exact am_callV (T := F_5) (N := 4) (okG_holds l) wcG_holds (am_m4 (i := 46) rfl rfl) wiG_holds wsG_holds inG rfl (by decide) (by decide +kernel) (by decide) (by decide)
  | 3, h => cases h; exact am_callCopy (am_m4 (i := 50) rfl rfl) (am_m3 (i := 33) rfl rfl) (am_m3 (i := 32) rfl rfl) (am_m1 (i := 14) rfl rfl) (by decide)
  | k + 4, h => simp [csX_copy] at h
theorem okX_copy (l : Launch) : am_Ok l yX_copy prog_1_method_34_code 8 (some .int) 1 spX_copy := am_ok_of (by decide +kernel) flX_ok kiX_ok klX_ok ckX_copy (clX_copy l) wpX_copy
