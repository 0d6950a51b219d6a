/-! items of the class's sheets -/
theorem vok_10 {v v' : vs_T} (h : ∀ c, c ≠ 10 → v' c = v c) (hv : vok v) : vok v' := by
  unfold vok at hv ⊢
  rw [h 0 (by decide), h 1 (by decide), h 2 (by decide), h 3 (by decide), h 4 (by decide), h 5 (by decide), h 6 (by decide), h 7 (by decide), h 8 (by decide), h 9 (by decide)]
  exact hv
theorem gWr_c {v : vs_T} {s c k q : Nat} (h : q ≠ 10) : gWr v s c k q = v q := by unfold gWr; rw [if_neg h]
theorem gCp_c {v : vs_T} {s i t j k q : Nat} (h : q ≠ 10) : gCp v s i t j k q = v q := by unfold gCp; rw [if_neg h]
theorem qEvent_pos {v : vs_T} {x y z : Int32} (hv : vok v) (h : 0 ≤ qEvent v x y z) : 0 < qEvent v x y z := by
  unfold qEvent at h ⊢
  split
  · rename_i hx
    rw [if_pos hx] at h
    split
    · rename_i hy
      rw [if_pos hy] at h
      split
      · rename_i hz
        rw [if_pos hz] at h
        split
        · rename_i hn
          rw [if_pos hn] at h
          exact absurd h (by decide)
        · rename_i hn
          have := (vok_ev hv).2
          rw [nle_lt]
          exact nI_nle (by omega) (by omega)
      · rename_i hz
        rw [if_neg hz] at h
        exact absurd h (by decide)
    · rename_i hy
      rw [if_neg hy] at h
      exact absurd h (by decide)
  · rename_i hx
    rw [if_neg hx] at h
    exact absurd h (by decide)
def fnX_put : Nat → am_Sp := fun a => match a with
  | 0 => spX_sheetOf
  | 1 => spX_isForm
  | 2 => spG_refusal
  | 3 => spX_found
  | 4 => spG_keep
  | _ => am_no
theorem mfX_put : ∀ a, am_mono (fnX_put a) := fun a => match a with
  | 0 => moX_sheetOf
  | 1 => moX_isForm
  | 2 => moG_refusal
  | 3 => moX_found
  | 4 => moG_keep
  | _ + 5 => am_no_mono
def spX_put : am_Sp := fun as D L K => match as with
  | [.ref 0, .int x, .int y, .int z, .int u] => ∃ v : vs_T, vok v ∧ ix D v ∧ ∀ (D' : am_D) (L' : am_L), fc D D' → ix D' (gPut v x y z u) → K (some (.int (qPut v x y z u))) D' L'
  | _ => False
theorem moX_put : am_mono spX_put := by
  intro as D L K K' hK h
  unfold spX_put at h ⊢
  split at h
  · obtain ⟨z0, z1, z2, hz⟩ := h
    exact ⟨z0, z1, z2, fun D' L' q1 q2 => hK _ _ _ (hz D' L' q1 q2)⟩
  · exact h
theorem wpX_put : ∀ (as : List Value) (D : am_D) (L : am_L) (K : am_K), spX_put as D L K → am_fit 7 as = true ∧ am_Wp false 0 cdX_put fnX_put K 0 (am_lo 7 as) [] D L := by
  intro as D L K h
  unfold spX_put at h
  split at h
  · rename_i x y z u
    obtain ⟨v, hv, hi, hK⟩ := h
    have kb : ¬ ((0 ≤ x ∧ x ≤ 3) ∧ (0 ≤ y ∧ y ≤ 2)) → K (some (.int (-2))) D L := fun q => by
      have k := hK D L fc_rf
      unfold qPut gPut at k
      by_cases c0 : (0 ≤ x ∧ x ≤ 3)
      · by_cases c1 : (0 ≤ y ∧ y ≤ 2)
        · exact absurd ⟨c0, c1⟩ q
        · rw [if_pos c0, if_pos c0, if_neg c1, if_neg c1] at k
          exact k hi
      · rw [if_neg c0, if_neg c0] at k
        exact k hi
    have hs := hi.1.2.2.2.2.2
    refine ⟨rfl, am_Wp_bl mfX_put [] 60 _ _ _ _ _ ?_⟩
    (repeat ((conv => whnf); (first | refine zo0 ?_ | refine zo1 ?_ | refine br_z ?_ | refine br_o ?_ | refine br_zn ?_ | refine br_on ?_ | refine nz2 ?_ | refine nz6 ?_ | refine nz32 ?_ | refine And.intro (by assumption) ?_))); (conv => whnf)
    refine ⟨fun ex => ?_, fun ex => ?_, fun ex => ?_, fun ex => ?_, fun ex => ?_⟩
    · subst ex
      have hx : (0 : Int32) ≤ 0 ∧ (0 : Int32) ≤ 3 := by decide
      obtain ⟨w1, w2, w3, w4⟩ := hs 0 (by decide)
      obtain ⟨o7, o9, o60⟩ := vok_sh hv (show 0 < 4 by decide)
      have d1 : D 41 1 = v 8 0 := w1
      have d2 : D 41 2 = nI (vn v 9 0) := w2.trans o9
      have d3 : D 41 3 = 1 - v 7 0 := w3
      have d4 : ∀ i, i < 60 → D 42 i = v 10 (60 * 0 + i) := w4
      (repeat ((conv => whnf); (first | refine zo0 ?_ | refine zo1 ?_ | refine br_z ?_ | refine br_o ?_ | refine br_zn ?_ | refine br_on ?_ | refine nz2 ?_ | refine nz6 ?_ | refine nz32 ?_ | refine And.intro (by assumption) ?_))); (conv => whnf)
      refine ⟨fun h1 => ?_, fun h1 => ?_⟩
      · have kk := kb (fun q => rn0 h1 q.2)
        (repeat ((conv => whnf); (first | refine zo0 ?_ | refine zo1 ?_ | refine br_z ?_ | refine br_o ?_ | refine br_zn ?_ | refine br_on ?_ | refine nz2 ?_ | refine nz6 ?_ | refine nz32 ?_ | refine And.intro (by assumption) ?_))); (conv => whnf)
        exact kk
      (repeat ((conv => whnf); (first | refine zo0 ?_ | refine zo1 ?_ | refine br_z ?_ | refine br_o ?_ | refine br_zn ?_ | refine br_on ?_ | refine nz2 ?_ | refine nz6 ?_ | refine nz32 ?_ | refine And.intro (by assumption) ?_))); (conv => whnf)
      refine ⟨fun h2 => ?_, fun h2 => ?_⟩
      · have kk := kb (fun q => rn3 2 h2 rfl (by omega) q.2)
        (repeat ((conv => whnf); (first | refine zo0 ?_ | refine zo1 ?_ | refine br_z ?_ | refine br_o ?_ | refine br_zn ?_ | refine br_on ?_ | refine nz2 ?_ | refine nz6 ?_ | refine nz32 ?_ | refine And.intro (by assumption) ?_))); (conv => whnf)
        exact kk
      have hy : 0 ≤ y ∧ y ≤ 2 := rq3 2 h1 h2
      (repeat ((conv => whnf); (first | refine zo0 ?_ | refine zo1 ?_ | refine br_z ?_ | refine br_o ?_ | refine br_zn ?_ | refine br_on ?_ | refine nz2 ?_ | refine nz6 ?_ | refine nz32 ?_ | refine And.intro (by assumption) ?_))); (conv => whnf)
      refine ⟨v, 0, hv, hs, Or.inl ⟨rfl, rfl⟩, ?_⟩
      have k1 : vlck v 0 y z = 0 → ∀ D', fc D D' → ix D' (am_up v 10 (60 * 0 + cN z) (cut (v 8 0) u)) → K (some (.int 1)) D' L := fun e D' f => by
        have k := hK D' L f
        unfold qPut gPut at k
        rw [if_pos hx, if_pos hx, if_pos hy, if_pos hy, cN_0, if_pos e, if_pos e] at k
        exact k
      have k2 : ¬ vlck v 0 y z = 0 → K (some (.int (-10 - vlck v 0 y z))) (am_up D 0 16 (vlck v 0 y z)) L := fun e => by
        have k := hK (am_up D 0 16 (vlck v 0 y z)) L (fc_up (by decide) fc_rf)
        unfold qPut gPut at k
        rw [if_pos hx, if_pos hx, if_pos hy, if_pos hy, cN_0, if_neg e, if_neg e] at k
        exact k (ix_find hi)
      have e0 : vlck v 0 y z = 0 → ∃ j, j < vn v 9 0 ∧ z = nI j := fun e => lck_0 o9 o60 e
      generalize vlck v 0 y z = r at k1 k2 e0
      (repeat ((conv => whnf); (first | refine zo0 ?_ | refine zo1 ?_ | refine br_z ?_ | refine br_o ?_ | refine br_zn ?_ | refine br_on ?_ | refine nz2 ?_ | refine nz6 ?_ | refine nz32 ?_ | refine And.intro (by assumption) ?_))); (conv => whnf)
      refine ⟨fun h3 => ?_, fun h3 => ?_⟩
      rotate_left
      · have kk := k2 h3
        (repeat ((conv => whnf); (first | refine zo0 ?_ | refine zo1 ?_ | refine br_z ?_ | refine br_o ?_ | refine br_zn ?_ | refine br_on ?_ | refine nz2 ?_ | refine nz6 ?_ | refine nz32 ?_ | refine And.intro (by assumption) ?_))); (conv => whnf)
        exact kk
      obtain ⟨j, hj, ej⟩ := e0 h3
      (repeat ((conv => whnf); (first | refine zo0 ?_ | refine zo1 ?_ | refine br_z ?_ | refine br_o ?_ | refine br_zn ?_ | refine br_on ?_ | refine nz2 ?_ | refine nz6 ?_ | refine nz32 ?_ | refine And.intro (by assumption) ?_))); (conv => whnf)
      refine ⟨v, 0, j, hv, hs, Or.inl ⟨rfl, rfl⟩, ej, hj, fun D' eD => ?_⟩
      subst eD
      have kk := k1 h3 (am_up D (2 * 0 + 42) j (cut (v 8 0) u)) (fc_up (by decide) fc_rf) (by rw [ej, cN_nI (by omega)]; exact ix_sh hi (fun q hq => am_up_ne (by omega)) (ish_item hs (by decide) (by omega)) (fun c hc => am_up_ne (by omega)))
      (repeat ((conv => whnf); (first | refine zo0 ?_ | refine zo1 ?_ | refine br_z ?_ | refine br_o ?_ | refine br_zn ?_ | refine br_on ?_ | refine nz2 ?_ | refine nz6 ?_ | refine nz32 ?_ | refine And.intro (by assumption) ?_))); (conv => whnf)
      exact kk
    · subst ex
      have hx : (0 : Int32) ≤ 1 ∧ (1 : Int32) ≤ 3 := by decide
      obtain ⟨w1, w2, w3, w4⟩ := hs 1 (by decide)
      obtain ⟨o7, o9, o60⟩ := vok_sh hv (show 1 < 4 by decide)
      have d1 : D 43 1 = v 8 1 := w1
      have d2 : D 43 2 = nI (vn v 9 1) := w2.trans o9
      have d3 : D 43 3 = 1 - v 7 1 := w3
      have d4 : ∀ i, i < 60 → D 44 i = v 10 (60 * 1 + i) := w4
      (repeat ((conv => whnf); (first | refine zo0 ?_ | refine zo1 ?_ | refine br_z ?_ | refine br_o ?_ | refine br_zn ?_ | refine br_on ?_ | refine nz2 ?_ | refine nz6 ?_ | refine nz32 ?_ | refine And.intro (by assumption) ?_))); (conv => whnf)
      refine ⟨fun h1 => ?_, fun h1 => ?_⟩
      · have kk := kb (fun q => rn0 h1 q.2)
        (repeat ((conv => whnf); (first | refine zo0 ?_ | refine zo1 ?_ | refine br_z ?_ | refine br_o ?_ | refine br_zn ?_ | refine br_on ?_ | refine nz2 ?_ | refine nz6 ?_ | refine nz32 ?_ | refine And.intro (by assumption) ?_))); (conv => whnf)
        exact kk
      (repeat ((conv => whnf); (first | refine zo0 ?_ | refine zo1 ?_ | refine br_z ?_ | refine br_o ?_ | refine br_zn ?_ | refine br_on ?_ | refine nz2 ?_ | refine nz6 ?_ | refine nz32 ?_ | refine And.intro (by assumption) ?_))); (conv => whnf)
      refine ⟨fun h2 => ?_, fun h2 => ?_⟩
      · have kk := kb (fun q => rn3 2 h2 rfl (by omega) q.2)
        (repeat ((conv => whnf); (first | refine zo0 ?_ | refine zo1 ?_ | refine br_z ?_ | refine br_o ?_ | refine br_zn ?_ | refine br_on ?_ | refine nz2 ?_ | refine nz6 ?_ | refine nz32 ?_ | refine And.intro (by assumption) ?_))); (conv => whnf)
        exact kk
      have hy : 0 ≤ y ∧ y ≤ 2 := rq3 2 h1 h2
      (repeat ((conv => whnf); (first | refine zo0 ?_ | refine zo1 ?_ | refine br_z ?_ | refine br_o ?_ | refine br_zn ?_ | refine br_on ?_ | refine nz2 ?_ | refine nz6 ?_ | refine nz32 ?_ | refine And.intro (by assumption) ?_))); (conv => whnf)
      refine ⟨v, 1, hv, hs, Or.inr (Or.inl ⟨rfl, rfl⟩), ?_⟩
      have k1 : vlck v 1 y z = 0 → ∀ D', fc D D' → ix D' (am_up v 10 (60 * 1 + cN z) (cut (v 8 1) u)) → K (some (.int 1)) D' L := fun e D' f => by
        have k := hK D' L f
        unfold qPut gPut at k
        rw [if_pos hx, if_pos hx, if_pos hy, if_pos hy, cN_1, if_pos e, if_pos e] at k
        exact k
      have k2 : ¬ vlck v 1 y z = 0 → K (some (.int (-10 - vlck v 1 y z))) (am_up D 0 16 (vlck v 1 y z)) L := fun e => by
        have k := hK (am_up D 0 16 (vlck v 1 y z)) L (fc_up (by decide) fc_rf)
        unfold qPut gPut at k
        rw [if_pos hx, if_pos hx, if_pos hy, if_pos hy, cN_1, if_neg e, if_neg e] at k
        exact k (ix_find hi)
      have e0 : vlck v 1 y z = 0 → ∃ j, j < vn v 9 1 ∧ z = nI j := fun e => lck_0 o9 o60 e
      generalize vlck v 1 y z = r at k1 k2 e0
      (repeat ((conv => whnf); (first | refine zo0 ?_ | refine zo1 ?_ | refine br_z ?_ | refine br_o ?_ | refine br_zn ?_ | refine br_on ?_ | refine nz2 ?_ | refine nz6 ?_ | refine nz32 ?_ | refine And.intro (by assumption) ?_))); (conv => whnf)
      refine ⟨fun h3 => ?_, fun h3 => ?_⟩
      rotate_left
      · have kk := k2 h3
        (repeat ((conv => whnf); (first | refine zo0 ?_ | refine zo1 ?_ | refine br_z ?_ | refine br_o ?_ | refine br_zn ?_ | refine br_on ?_ | refine nz2 ?_ | refine nz6 ?_ | refine nz32 ?_ | refine And.intro (by assumption) ?_))); (conv => whnf)
        exact kk
      obtain ⟨j, hj, ej⟩ := e0 h3
      (repeat ((conv => whnf); (first | refine zo0 ?_ | refine zo1 ?_ | refine br_z ?_ | refine br_o ?_ | refine br_zn ?_ | refine br_on ?_ | refine nz2 ?_ | refine nz6 ?_ | refine nz32 ?_ | refine And.intro (by assumption) ?_))); (conv => whnf)
      refine ⟨v, 1, j, hv, hs, Or.inr (Or.inl ⟨rfl, rfl⟩), ej, hj, fun D' eD => ?_⟩
      subst eD
      have kk := k1 h3 (am_up D (2 * 1 + 42) j (cut (v 8 1) u)) (fc_up (by decide) fc_rf) (by rw [ej, cN_nI (by omega)]; exact ix_sh hi (fun q hq => am_up_ne (by omega)) (ish_item hs (by decide) (by omega)) (fun c hc => am_up_ne (by omega)))
      (repeat ((conv => whnf); (first | refine zo0 ?_ | refine zo1 ?_ | refine br_z ?_ | refine br_o ?_ | refine br_zn ?_ | refine br_on ?_ | refine nz2 ?_ | refine nz6 ?_ | refine nz32 ?_ | refine And.intro (by assumption) ?_))); (conv => whnf)
      exact kk
    · subst ex
      have hx : (0 : Int32) ≤ 2 ∧ (2 : Int32) ≤ 3 := by decide
      obtain ⟨w1, w2, w3, w4⟩ := hs 2 (by decide)
      obtain ⟨o7, o9, o60⟩ := vok_sh hv (show 2 < 4 by decide)
      have d1 : D 45 1 = v 8 2 := w1
      have d2 : D 45 2 = nI (vn v 9 2) := w2.trans o9
      have d3 : D 45 3 = 1 - v 7 2 := w3
      have d4 : ∀ i, i < 60 → D 46 i = v 10 (60 * 2 + i) := w4
      (repeat ((conv => whnf); (first | refine zo0 ?_ | refine zo1 ?_ | refine br_z ?_ | refine br_o ?_ | refine br_zn ?_ | refine br_on ?_ | refine nz2 ?_ | refine nz6 ?_ | refine nz32 ?_ | refine And.intro (by assumption) ?_))); (conv => whnf)
      refine ⟨fun h1 => ?_, fun h1 => ?_⟩
      · have kk := kb (fun q => rn0 h1 q.2)
        (repeat ((conv => whnf); (first | refine zo0 ?_ | refine zo1 ?_ | refine br_z ?_ | refine br_o ?_ | refine br_zn ?_ | refine br_on ?_ | refine nz2 ?_ | refine nz6 ?_ | refine nz32 ?_ | refine And.intro (by assumption) ?_))); (conv => whnf)
        exact kk
      (repeat ((conv => whnf); (first | refine zo0 ?_ | refine zo1 ?_ | refine br_z ?_ | refine br_o ?_ | refine br_zn ?_ | refine br_on ?_ | refine nz2 ?_ | refine nz6 ?_ | refine nz32 ?_ | refine And.intro (by assumption) ?_))); (conv => whnf)
      refine ⟨fun h2 => ?_, fun h2 => ?_⟩
      · have kk := kb (fun q => rn3 2 h2 rfl (by omega) q.2)
        (repeat ((conv => whnf); (first | refine zo0 ?_ | refine zo1 ?_ | refine br_z ?_ | refine br_o ?_ | refine br_zn ?_ | refine br_on ?_ | refine nz2 ?_ | refine nz6 ?_ | refine nz32 ?_ | refine And.intro (by assumption) ?_))); (conv => whnf)
        exact kk
      have hy : 0 ≤ y ∧ y ≤ 2 := rq3 2 h1 h2
      (repeat ((conv => whnf); (first | refine zo0 ?_ | refine zo1 ?_ | refine br_z ?_ | refine br_o ?_ | refine br_zn ?_ | refine br_on ?_ | refine nz2 ?_ | refine nz6 ?_ | refine nz32 ?_ | refine And.intro (by assumption) ?_))); (conv => whnf)
      refine ⟨v, 2, hv, hs, Or.inr (Or.inr (Or.inl ⟨rfl, rfl⟩)), ?_⟩
      have k1 : vlck v 2 y z = 0 → ∀ D', fc D D' → ix D' (am_up v 10 (60 * 2 + cN z) (cut (v 8 2) u)) → K (some (.int 1)) D' L := fun e D' f => by
        have k := hK D' L f
        unfold qPut gPut at k
        rw [if_pos hx, if_pos hx, if_pos hy, if_pos hy, cN_2, if_pos e, if_pos e] at k
        exact k
      have k2 : ¬ vlck v 2 y z = 0 → K (some (.int (-10 - vlck v 2 y z))) (am_up D 0 16 (vlck v 2 y z)) L := fun e => by
        have k := hK (am_up D 0 16 (vlck v 2 y z)) L (fc_up (by decide) fc_rf)
        unfold qPut gPut at k
        rw [if_pos hx, if_pos hx, if_pos hy, if_pos hy, cN_2, if_neg e, if_neg e] at k
        exact k (ix_find hi)
      have e0 : vlck v 2 y z = 0 → ∃ j, j < vn v 9 2 ∧ z = nI j := fun e => lck_0 o9 o60 e
      generalize vlck v 2 y z = r at k1 k2 e0
      (repeat ((conv => whnf); (first | refine zo0 ?_ | refine zo1 ?_ | refine br_z ?_ | refine br_o ?_ | refine br_zn ?_ | refine br_on ?_ | refine nz2 ?_ | refine nz6 ?_ | refine nz32 ?_ | refine And.intro (by assumption) ?_))); (conv => whnf)
      refine ⟨fun h3 => ?_, fun h3 => ?_⟩
      rotate_left
      · have kk := k2 h3
        (repeat ((conv => whnf); (first | refine zo0 ?_ | refine zo1 ?_ | refine br_z ?_ | refine br_o ?_ | refine br_zn ?_ | refine br_on ?_ | refine nz2 ?_ | refine nz6 ?_ | refine nz32 ?_ | refine And.intro (by assumption) ?_))); (conv => whnf)
        exact kk
      obtain ⟨j, hj, ej⟩ := e0 h3
      (repeat ((conv => whnf); (first | refine zo0 ?_ | refine zo1 ?_ | refine br_z ?_ | refine br_o ?_ | refine br_zn ?_ | refine br_on ?_ | refine nz2 ?_ | refine nz6 ?_ | refine nz32 ?_ | refine And.intro (by assumption) ?_))); (conv => whnf)
      refine ⟨v, 2, j, hv, hs, Or.inr (Or.inr (Or.inl ⟨rfl, rfl⟩)), ej, hj, fun D' eD => ?_⟩
      subst eD
      have kk := k1 h3 (am_up D (2 * 2 + 42) j (cut (v 8 2) u)) (fc_up (by decide) fc_rf) (by rw [ej, cN_nI (by omega)]; exact ix_sh hi (fun q hq => am_up_ne (by omega)) (ish_item hs (by decide) (by omega)) (fun c hc => am_up_ne (by omega)))
      (repeat ((conv => whnf); (first | refine zo0 ?_ | refine zo1 ?_ | refine br_z ?_ | refine br_o ?_ | refine br_zn ?_ | refine br_on ?_ | refine nz2 ?_ | refine nz6 ?_ | refine nz32 ?_ | refine And.intro (by assumption) ?_))); (conv => whnf)
      exact kk
    · subst ex
      have hx : (0 : Int32) ≤ 3 ∧ (3 : Int32) ≤ 3 := by decide
      obtain ⟨w1, w2, w3, w4⟩ := hs 3 (by decide)
      obtain ⟨o7, o9, o60⟩ := vok_sh hv (show 3 < 4 by decide)
      have d1 : D 47 1 = v 8 3 := w1
      have d2 : D 47 2 = nI (vn v 9 3) := w2.trans o9
      have d3 : D 47 3 = 1 - v 7 3 := w3
      have d4 : ∀ i, i < 60 → D 48 i = v 10 (60 * 3 + i) := w4
      (repeat ((conv => whnf); (first | refine zo0 ?_ | refine zo1 ?_ | refine br_z ?_ | refine br_o ?_ | refine br_zn ?_ | refine br_on ?_ | refine nz2 ?_ | refine nz6 ?_ | refine nz32 ?_ | refine And.intro (by assumption) ?_))); (conv => whnf)
      refine ⟨fun h1 => ?_, fun h1 => ?_⟩
      · have kk := kb (fun q => rn0 h1 q.2)
        (repeat ((conv => whnf); (first | refine zo0 ?_ | refine zo1 ?_ | refine br_z ?_ | refine br_o ?_ | refine br_zn ?_ | refine br_on ?_ | refine nz2 ?_ | refine nz6 ?_ | refine nz32 ?_ | refine And.intro (by assumption) ?_))); (conv => whnf)
        exact kk
      (repeat ((conv => whnf); (first | refine zo0 ?_ | refine zo1 ?_ | refine br_z ?_ | refine br_o ?_ | refine br_zn ?_ | refine br_on ?_ | refine nz2 ?_ | refine nz6 ?_ | refine nz32 ?_ | refine And.intro (by assumption) ?_))); (conv => whnf)
      refine ⟨fun h2 => ?_, fun h2 => ?_⟩
      · have kk := kb (fun q => rn3 2 h2 rfl (by omega) q.2)
        (repeat ((conv => whnf); (first | refine zo0 ?_ | refine zo1 ?_ | refine br_z ?_ | refine br_o ?_ | refine br_zn ?_ | refine br_on ?_ | refine nz2 ?_ | refine nz6 ?_ | refine nz32 ?_ | refine And.intro (by assumption) ?_))); (conv => whnf)
        exact kk
      have hy : 0 ≤ y ∧ y ≤ 2 := rq3 2 h1 h2
      (repeat ((conv => whnf); (first | refine zo0 ?_ | refine zo1 ?_ | refine br_z ?_ | refine br_o ?_ | refine br_zn ?_ | refine br_on ?_ | refine nz2 ?_ | refine nz6 ?_ | refine nz32 ?_ | refine And.intro (by assumption) ?_))); (conv => whnf)
      refine ⟨v, 3, hv, hs, Or.inr (Or.inr (Or.inr ⟨rfl, rfl⟩)), ?_⟩
      have k1 : vlck v 3 y z = 0 → ∀ D', fc D D' → ix D' (am_up v 10 (60 * 3 + cN z) (cut (v 8 3) u)) → K (some (.int 1)) D' L := fun e D' f => by
        have k := hK D' L f
        unfold qPut gPut at k
        rw [if_pos hx, if_pos hx, if_pos hy, if_pos hy, cN_3, if_pos e, if_pos e] at k
        exact k
      have k2 : ¬ vlck v 3 y z = 0 → K (some (.int (-10 - vlck v 3 y z))) (am_up D 0 16 (vlck v 3 y z)) L := fun e => by
        have k := hK (am_up D 0 16 (vlck v 3 y z)) L (fc_up (by decide) fc_rf)
        unfold qPut gPut at k
        rw [if_pos hx, if_pos hx, if_pos hy, if_pos hy, cN_3, if_neg e, if_neg e] at k
        exact k (ix_find hi)
      have e0 : vlck v 3 y z = 0 → ∃ j, j < vn v 9 3 ∧ z = nI j := fun e => lck_0 o9 o60 e
      generalize vlck v 3 y z = r at k1 k2 e0
      (repeat ((conv => whnf); (first | refine zo0 ?_ | refine zo1 ?_ | refine br_z ?_ | refine br_o ?_ | refine br_zn ?_ | refine br_on ?_ | refine nz2 ?_ | refine nz6 ?_ | refine nz32 ?_ | refine And.intro (by assumption) ?_))); (conv => whnf)
      refine ⟨fun h3 => ?_, fun h3 => ?_⟩
      rotate_left
      · have kk := k2 h3
        (repeat ((conv => whnf); (first | refine zo0 ?_ | refine zo1 ?_ | refine br_z ?_ | refine br_o ?_ | refine br_zn ?_ | refine br_on ?_ | refine nz2 ?_ | refine nz6 ?_ | refine nz32 ?_ | refine And.intro (by assumption) ?_))); (conv => whnf)
        exact kk
      obtain ⟨j, hj, ej⟩ := e0 h3
      (repeat ((conv => whnf); (first | refine zo0 ?_ | refine zo1 ?_ | refine br_z ?_ | refine br_o ?_ | refine br_zn ?_ | refine br_on ?_ | refine nz2 ?_ | refine nz6 ?_ | refine nz32 ?_ | refine And.intro (by assumption) ?_))); (conv => whnf)
      refine ⟨v, 3, j, hv, hs, Or.inr (Or.inr (Or.inr ⟨rfl, rfl⟩)), ej, hj, fun D' eD => ?_⟩
      subst eD
      have kk := k1 h3 (am_up D (2 * 3 + 42) j (cut (v 8 3) u)) (fc_up (by decide) fc_rf) (by rw [ej, cN_nI (by omega)]; exact ix_sh hi (fun q hq => am_up_ne (by omega)) (ish_item hs (by decide) (by omega)) (fun c hc => am_up_ne (by omega)))
      (repeat ((conv => whnf); (first | refine zo0 ?_ | refine zo1 ?_ | refine br_z ?_ | refine br_o ?_ | refine br_zn ?_ | refine br_on ?_ | refine nz2 ?_ | refine nz6 ?_ | refine nz32 ?_ | refine And.intro (by assumption) ?_))); (conv => whnf)
      exact kk
    · have kk := kb (fun q => ex q.1)
      (repeat ((conv => whnf); (first | refine zo0 ?_ | refine zo1 ?_ | refine br_z ?_ | refine br_o ?_ | refine br_zn ?_ | refine br_on ?_ | refine nz2 ?_ | refine nz6 ?_ | refine nz32 ?_ | refine And.intro (by assumption) ?_))); (conv => whnf)
      exact kk
  · exact absurd h id
theorem clX_put (l : Launch) : ∀ (a : Nat) (ins : Instr) (b dd : Nat), csX_put[a]? = some (ins, b, dd) → am_Call l yX_put.cls 1 ins b dd (fnX_put a) := by
  intro a ins b dd h
  match a, h with
  | 0, h => cases h; exact am_callV (T := F_10) (N := 17) (okX_sheetOf l) wcX_sheetOf (am_m2 (i := 238) rfl rfl) wiX_sheetOf wsX_sheetOf inX rfl (by decide) (by decide +kernel) (by decide) (by decide)
  | 1, h => cases h; exact am_callS (okX_isForm l) wcX_isForm (am_m4 (i := 9) rfl rfl) wtX_isForm inX (by decide +kernel) (by decide) (by decide)
  | 2, h => cases h; exact am_callV (T := F_5) (N := 4) (okG_refusal l) wcG_refusal (am_m4 (i := 25) rfl rfl) wiG_refusal wsG_refusal inG rfl (by decide) (by decide +kernel) (by decide) (by decide)
  | 3, h => cases h; exact am_callV (T := F_10) (N := 17) (okX_found l) wcX_found (am_m3 (i := 2) rfl rfl) wiX_found wsX_found inX rfl (by decide) (by decide +kernel) (by decide) (by decide)
  | 4, h => cases h; exact am_callV (T := F_5) (N := 4) (okG_keep l) wcG_keep (am_m4 (i := 29) rfl rfl) wiG_keep wsG_keep inG rfl (by decide) (by decide +kernel) (by decide) (by decide)
  | k + 5, h => simp [csX_put] at h
theorem okX_put (l : Launch) : am_Ok l yX_put prog_1_method_32_code 7 (some .int) 1 spX_put := am_ok_of (by decide +kernel) flX_ok kiX_ok klX_ok ckX_put (clX_put l) wpX_put
def fnX_get : Nat → am_Sp := fun a => match a with
  | 0 => spX_sheetOf
  | 1 => spX_isForm
  | 2 => spG_refusal
  | 3 => spG_item
  | _ => am_no
theorem mfX_get : ∀ a, am_mono (fnX_get a) := fun a => match a with
  | 0 => moX_sheetOf
  | 1 => moX_isForm
  | 2 => moG_refusal
  | 3 => moG_item
  | _ + 4 => am_no_mono
def spX_get : am_Sp := fun as D L K => match as with
  | [.ref 0, .int x, .int y, .int z] => ∃ v : vs_T, vok v ∧ ix D v ∧ ∀ (D' : am_D) (L' : am_L), fc D D' → ix D' (gGet v x y z) → K (some (.int (qGet v x y z))) D' L'
  | _ => False
theorem moX_get : am_mono spX_get := by
  intro as D L K K' hK h
  unfold spX_get at h ⊢
  split at h
  · obtain ⟨z0, z1, z2, hz⟩ := h
    exact ⟨z0, z1, z2, fun D' L' q1 q2 => hK _ _ _ (hz D' L' q1 q2)⟩
  · exact h
theorem wpX_get : ∀ (as : List Value) (D : am_D) (L : am_L) (K : am_K), spX_get as D L K → am_fit 6 as = true ∧ am_Wp false 0 cdX_get fnX_get K 0 (am_lo 6 as) [] D L := by
  intro as D L K h
  unfold spX_get at h
  split at h
  · rename_i x y z
    obtain ⟨v, hv, hi, hK⟩ := h
    have kb : ¬ ((0 ≤ x ∧ x ≤ 3) ∧ (0 ≤ y ∧ y ≤ 2)) → K (some (.int (-2147483648))) D L := fun q => by
      have k := hK D L fc_rf
      unfold qGet gGet at k
      by_cases c0 : (0 ≤ x ∧ x ≤ 3)
      · by_cases c1 : (0 ≤ y ∧ y ≤ 2)
        · exact absurd ⟨c0, c1⟩ q
        · rw [if_pos c0, if_pos c0, if_neg c1, if_neg c1] at k
          exact k hi
      · rw [if_neg c0, if_neg c0] at k
        exact k hi
    have hs := hi.1.2.2.2.2.2
    refine ⟨rfl, am_Wp_bl mfX_get [] 60 _ _ _ _ _ ?_⟩
    (repeat ((conv => whnf); (first | refine zo0 ?_ | refine zo1 ?_ | refine br_z ?_ | refine br_o ?_ | refine br_zn ?_ | refine br_on ?_ | refine nz2 ?_ | refine nz6 ?_ | refine nz32 ?_ | refine And.intro (by assumption) ?_))); (conv => whnf)
    refine ⟨fun ex => ?_, fun ex => ?_, fun ex => ?_, fun ex => ?_, fun ex => ?_⟩
    · subst ex
      have hx : (0 : Int32) ≤ 0 ∧ (0 : Int32) ≤ 3 := by decide
      obtain ⟨w1, w2, w3, w4⟩ := hs 0 (by decide)
      obtain ⟨o7, o9, o60⟩ := vok_sh hv (show 0 < 4 by decide)
      have d1 : D 41 1 = v 8 0 := w1
      have d2 : D 41 2 = nI (vn v 9 0) := w2.trans o9
      have d3 : D 41 3 = 1 - v 7 0 := w3
      have d4 : ∀ i, i < 60 → D 42 i = v 10 (60 * 0 + i) := w4
      (repeat ((conv => whnf); (first | refine zo0 ?_ | refine zo1 ?_ | refine br_z ?_ | refine br_o ?_ | refine br_zn ?_ | refine br_on ?_ | refine nz2 ?_ | refine nz6 ?_ | refine nz32 ?_ | refine And.intro (by assumption) ?_))); (conv => whnf)
      refine ⟨fun h1 => ?_, fun h1 => ?_⟩
      · have kk := kb (fun q => rn0 h1 q.2)
        (repeat ((conv => whnf); (first | refine zo0 ?_ | refine zo1 ?_ | refine br_z ?_ | refine br_o ?_ | refine br_zn ?_ | refine br_on ?_ | refine nz2 ?_ | refine nz6 ?_ | refine nz32 ?_ | refine And.intro (by assumption) ?_))); (conv => whnf)
        exact kk
      (repeat ((conv => whnf); (first | refine zo0 ?_ | refine zo1 ?_ | refine br_z ?_ | refine br_o ?_ | refine br_zn ?_ | refine br_on ?_ | refine nz2 ?_ | refine nz6 ?_ | refine nz32 ?_ | refine And.intro (by assumption) ?_))); (conv => whnf)
      refine ⟨fun h2 => ?_, fun h2 => ?_⟩
      · have kk := kb (fun q => rn3 2 h2 rfl (by omega) q.2)
        (repeat ((conv => whnf); (first | refine zo0 ?_ | refine zo1 ?_ | refine br_z ?_ | refine br_o ?_ | refine br_zn ?_ | refine br_on ?_ | refine nz2 ?_ | refine nz6 ?_ | refine nz32 ?_ | refine And.intro (by assumption) ?_))); (conv => whnf)
        exact kk
      have hy : 0 ≤ y ∧ y ≤ 2 := rq3 2 h1 h2
      (repeat ((conv => whnf); (first | refine zo0 ?_ | refine zo1 ?_ | refine br_z ?_ | refine br_o ?_ | refine br_zn ?_ | refine br_on ?_ | refine nz2 ?_ | refine nz6 ?_ | refine nz32 ?_ | refine And.intro (by assumption) ?_))); (conv => whnf)
      refine ⟨v, 0, hv, hs, Or.inl ⟨rfl, rfl⟩, ?_⟩
      have k1 : vlck v 0 y z = 0 → K (some (.int (v 10 (60 * 0 + cN z)))) D L := fun e => by
        have k := hK D L fc_rf
        unfold qGet gGet at k
        rw [if_pos hx, if_pos hx, if_pos hy, if_pos hy, cN_0, if_pos e, if_pos e] at k
        exact k hi
      have k2 : ¬ vlck v 0 y z = 0 → K (some (.int (-2147483648))) (am_up D 0 16 (vlck v 0 y z)) L := fun e => by
        have k := hK (am_up D 0 16 (vlck v 0 y z)) L (fc_up (by decide) fc_rf)
        unfold qGet gGet at k
        rw [if_pos hx, if_pos hx, if_pos hy, if_pos hy, cN_0, if_neg e, if_neg e] at k
        exact k (ix_find hi)
      have e0 : vlck v 0 y z = 0 → ∃ j, j < vn v 9 0 ∧ z = nI j := fun e => lck_0 o9 o60 e
      generalize vlck v 0 y z = r at k1 k2 e0
      (repeat ((conv => whnf); (first | refine zo0 ?_ | refine zo1 ?_ | refine br_z ?_ | refine br_o ?_ | refine br_zn ?_ | refine br_on ?_ | refine nz2 ?_ | refine nz6 ?_ | refine nz32 ?_ | refine And.intro (by assumption) ?_))); (conv => whnf)
      refine ⟨fun h3 => ?_, fun h3 => ?_⟩
      rotate_left
      · have kk := k2 h3
        (repeat ((conv => whnf); (first | refine zo0 ?_ | refine zo1 ?_ | refine br_z ?_ | refine br_o ?_ | refine br_zn ?_ | refine br_on ?_ | refine nz2 ?_ | refine nz6 ?_ | refine nz32 ?_ | refine And.intro (by assumption) ?_))); (conv => whnf)
        exact kk
      obtain ⟨j, hj, ej⟩ := e0 h3
      have kk := k1 h3
      subst ej
      have i60 : vp_in (nI j) 60 := vp_in_nI (by omega) (by decide)
      have cj : (nI j).toNatClampNeg = j := nI_clamp (by omega)
      rw [cN_nI (by omega), ← d4 j (by omega)] at kk
      (repeat ((conv => whnf); (first | refine zo0 ?_ | refine zo1 ?_ | refine br_z ?_ | refine br_o ?_ | refine br_zn ?_ | refine br_on ?_ | refine nz2 ?_ | refine nz6 ?_ | refine nz32 ?_ | refine And.intro (by assumption) ?_))); (conv => whnf)
      refine ⟨fun h4 => absurd h4 (nI_pos (by omega)), fun h4 => ?_⟩
      (repeat ((conv => whnf); (first | refine zo0 ?_ | refine zo1 ?_ | refine br_z ?_ | refine br_o ?_ | refine br_zn ?_ | refine br_on ?_ | refine nz2 ?_ | refine nz6 ?_ | refine nz32 ?_ | refine And.intro (by assumption) ?_))); (conv => whnf)
      refine ⟨fun h5 => ?_, fun h5 => absurd (nI_lt (b := 60) (by omega) (by omega)) h5⟩
      (repeat ((conv => whnf); (first | refine zo0 ?_ | refine zo1 ?_ | refine br_z ?_ | refine br_o ?_ | refine br_zn ?_ | refine br_on ?_ | refine nz2 ?_ | refine nz6 ?_ | refine nz32 ?_ | refine And.intro (by assumption) ?_))); (conv => whnf)
      rw [cj]
      exact kk
    · subst ex
      have hx : (0 : Int32) ≤ 1 ∧ (1 : Int32) ≤ 3 := by decide
      obtain ⟨w1, w2, w3, w4⟩ := hs 1 (by decide)
      obtain ⟨o7, o9, o60⟩ := vok_sh hv (show 1 < 4 by decide)
      have d1 : D 43 1 = v 8 1 := w1
      have d2 : D 43 2 = nI (vn v 9 1) := w2.trans o9
      have d3 : D 43 3 = 1 - v 7 1 := w3
      have d4 : ∀ i, i < 60 → D 44 i = v 10 (60 * 1 + i) := w4
      (repeat ((conv => whnf); (first | refine zo0 ?_ | refine zo1 ?_ | refine br_z ?_ | refine br_o ?_ | refine br_zn ?_ | refine br_on ?_ | refine nz2 ?_ | refine nz6 ?_ | refine nz32 ?_ | refine And.intro (by assumption) ?_))); (conv => whnf)
      refine ⟨fun h1 => ?_, fun h1 => ?_⟩
      · have kk := kb (fun q => rn0 h1 q.2)
        (repeat ((conv => whnf); (first | refine zo0 ?_ | refine zo1 ?_ | refine br_z ?_ | refine br_o ?_ | refine br_zn ?_ | refine br_on ?_ | refine nz2 ?_ | refine nz6 ?_ | refine nz32 ?_ | refine And.intro (by assumption) ?_))); (conv => whnf)
        exact kk
      (repeat ((conv => whnf); (first | refine zo0 ?_ | refine zo1 ?_ | refine br_z ?_ | refine br_o ?_ | refine br_zn ?_ | refine br_on ?_ | refine nz2 ?_ | refine nz6 ?_ | refine nz32 ?_ | refine And.intro (by assumption) ?_))); (conv => whnf)
      refine ⟨fun h2 => ?_, fun h2 => ?_⟩
      · have kk := kb (fun q => rn3 2 h2 rfl (by omega) q.2)
        (repeat ((conv => whnf); (first | refine zo0 ?_ | refine zo1 ?_ | refine br_z ?_ | refine br_o ?_ | refine br_zn ?_ | refine br_on ?_ | refine nz2 ?_ | refine nz6 ?_ | refine nz32 ?_ | refine And.intro (by assumption) ?_))); (conv => whnf)
        exact kk
      have hy : 0 ≤ y ∧ y ≤ 2 := rq3 2 h1 h2
      (repeat ((conv => whnf); (first | refine zo0 ?_ | refine zo1 ?_ | refine br_z ?_ | refine br_o ?_ | refine br_zn ?_ | refine br_on ?_ | refine nz2 ?_ | refine nz6 ?_ | refine nz32 ?_ | refine And.intro (by assumption) ?_))); (conv => whnf)
      refine ⟨v, 1, hv, hs, Or.inr (Or.inl ⟨rfl, rfl⟩), ?_⟩
      have k1 : vlck v 1 y z = 0 → K (some (.int (v 10 (60 * 1 + cN z)))) D L := fun e => by
        have k := hK D L fc_rf
        unfold qGet gGet at k
        rw [if_pos hx, if_pos hx, if_pos hy, if_pos hy, cN_1, if_pos e, if_pos e] at k
        exact k hi
      have k2 : ¬ vlck v 1 y z = 0 → K (some (.int (-2147483648))) (am_up D 0 16 (vlck v 1 y z)) L := fun e => by
        have k := hK (am_up D 0 16 (vlck v 1 y z)) L (fc_up (by decide) fc_rf)
        unfold qGet gGet at k
        rw [if_pos hx, if_pos hx, if_pos hy, if_pos hy, cN_1, if_neg e, if_neg e] at k
        exact k (ix_find hi)
      have e0 : vlck v 1 y z = 0 → ∃ j, j < vn v 9 1 ∧ z = nI j := fun e => lck_0 o9 o60 e
      generalize vlck v 1 y z = r at k1 k2 e0
      (repeat ((conv => whnf); (first | refine zo0 ?_ | refine zo1 ?_ | refine br_z ?_ | refine br_o ?_ | refine br_zn ?_ | refine br_on ?_ | refine nz2 ?_ | refine nz6 ?_ | refine nz32 ?_ | refine And.intro (by assumption) ?_))); (conv => whnf)
      refine ⟨fun h3 => ?_, fun h3 => ?_⟩
      rotate_left
      · have kk := k2 h3
        (repeat ((conv => whnf); (first | refine zo0 ?_ | refine zo1 ?_ | refine br_z ?_ | refine br_o ?_ | refine br_zn ?_ | refine br_on ?_ | refine nz2 ?_ | refine nz6 ?_ | refine nz32 ?_ | refine And.intro (by assumption) ?_))); (conv => whnf)
        exact kk
      obtain ⟨j, hj, ej⟩ := e0 h3
      have kk := k1 h3
      subst ej
      have i60 : vp_in (nI j) 60 := vp_in_nI (by omega) (by decide)
      have cj : (nI j).toNatClampNeg = j := nI_clamp (by omega)
      rw [cN_nI (by omega), ← d4 j (by omega)] at kk
      (repeat ((conv => whnf); (first | refine zo0 ?_ | refine zo1 ?_ | refine br_z ?_ | refine br_o ?_ | refine br_zn ?_ | refine br_on ?_ | refine nz2 ?_ | refine nz6 ?_ | refine nz32 ?_ | refine And.intro (by assumption) ?_))); (conv => whnf)
      refine ⟨fun h4 => absurd h4 (nI_pos (by omega)), fun h4 => ?_⟩
      (repeat ((conv => whnf); (first | refine zo0 ?_ | refine zo1 ?_ | refine br_z ?_ | refine br_o ?_ | refine br_zn ?_ | refine br_on ?_ | refine nz2 ?_ | refine nz6 ?_ | refine nz32 ?_ | refine And.intro (by assumption) ?_))); (conv => whnf)
      refine ⟨fun h5 => ?_, fun h5 => absurd (nI_lt (b := 60) (by omega) (by omega)) h5⟩
      (repeat ((conv => whnf); (first | refine zo0 ?_ | refine zo1 ?_ | refine br_z ?_ | refine br_o ?_ | refine br_zn ?_ | refine br_on ?_ | refine nz2 ?_ | refine nz6 ?_ | refine nz32 ?_ | refine And.intro (by assumption) ?_))); (conv => whnf)
      rw [cj]
      exact kk
    · subst ex
      have hx : (0 : Int32) ≤ 2 ∧ (2 : Int32) ≤ 3 := by decide
      obtain ⟨w1, w2, w3, w4⟩ := hs 2 (by decide)
      obtain ⟨o7, o9, o60⟩ := vok_sh hv (show 2 < 4 by decide)
      have d1 : D 45 1 = v 8 2 := w1
      have d2 : D 45 2 = nI (vn v 9 2) := w2.trans o9
      have d3 : D 45 3 = 1 - v 7 2 := w3
      have d4 : ∀ i, i < 60 → D 46 i = v 10 (60 * 2 + i) := w4
      (repeat ((conv => whnf); (first | refine zo0 ?_ | refine zo1 ?_ | refine br_z ?_ | refine br_o ?_ | refine br_zn ?_ | refine br_on ?_ | refine nz2 ?_ | refine nz6 ?_ | refine nz32 ?_ | refine And.intro (by assumption) ?_))); (conv => whnf)
      refine ⟨fun h1 => ?_, fun h1 => ?_⟩
      · have kk := kb (fun q => rn0 h1 q.2)
        (repeat ((conv => whnf); (first | refine zo0 ?_ | refine zo1 ?_ | refine br_z ?_ | refine br_o ?_ | refine br_zn ?_ | refine br_on ?_ | refine nz2 ?_ | refine nz6 ?_ | refine nz32 ?_ | refine And.intro (by assumption) ?_))); (conv => whnf)
        exact kk
      (repeat ((conv => whnf); (first | refine zo0 ?_ | refine zo1 ?_ | refine br_z ?_ | refine br_o ?_ | refine br_zn ?_ | refine br_on ?_ | refine nz2 ?_ | refine nz6 ?_ | refine nz32 ?_ | refine And.intro (by assumption) ?_))); (conv => whnf)
      refine ⟨fun h2 => ?_, fun h2 => ?_⟩
      · have kk := kb (fun q => rn3 2 h2 rfl (by omega) q.2)
        (repeat ((conv => whnf); (first | refine zo0 ?_ | refine zo1 ?_ | refine br_z ?_ | refine br_o ?_ | refine br_zn ?_ | refine br_on ?_ | refine nz2 ?_ | refine nz6 ?_ | refine nz32 ?_ | refine And.intro (by assumption) ?_))); (conv => whnf)
        exact kk
      have hy : 0 ≤ y ∧ y ≤ 2 := rq3 2 h1 h2
      (repeat ((conv => whnf); (first | refine zo0 ?_ | refine zo1 ?_ | refine br_z ?_ | refine br_o ?_ | refine br_zn ?_ | refine br_on ?_ | refine nz2 ?_ | refine nz6 ?_ | refine nz32 ?_ | refine And.intro (by assumption) ?_))); (conv => whnf)
      refine ⟨v, 2, hv, hs, Or.inr (Or.inr (Or.inl ⟨rfl, rfl⟩)), ?_⟩
      have k1 : vlck v 2 y z = 0 → K (some (.int (v 10 (60 * 2 + cN z)))) D L := fun e => by
        have k := hK D L fc_rf
        unfold qGet gGet at k
        rw [if_pos hx, if_pos hx, if_pos hy, if_pos hy, cN_2, if_pos e, if_pos e] at k
        exact k hi
      have k2 : ¬ vlck v 2 y z = 0 → K (some (.int (-2147483648))) (am_up D 0 16 (vlck v 2 y z)) L := fun e => by
        have k := hK (am_up D 0 16 (vlck v 2 y z)) L (fc_up (by decide) fc_rf)
        unfold qGet gGet at k
        rw [if_pos hx, if_pos hx, if_pos hy, if_pos hy, cN_2, if_neg e, if_neg e] at k
        exact k (ix_find hi)
      have e0 : vlck v 2 y z = 0 → ∃ j, j < vn v 9 2 ∧ z = nI j := fun e => lck_0 o9 o60 e
      generalize vlck v 2 y z = r at k1 k2 e0
      (repeat ((conv => whnf); (first | refine zo0 ?_ | refine zo1 ?_ | refine br_z ?_ | refine br_o ?_ | refine br_zn ?_ | refine br_on ?_ | refine nz2 ?_ | refine nz6 ?_ | refine nz32 ?_ | refine And.intro (by assumption) ?_))); (conv => whnf)
      refine ⟨fun h3 => ?_, fun h3 => ?_⟩
      rotate_left
      · have kk := k2 h3
        (repeat ((conv => whnf); (first | refine zo0 ?_ | refine zo1 ?_ | refine br_z ?_ | refine br_o ?_ | refine br_zn ?_ | refine br_on ?_ | refine nz2 ?_ | refine nz6 ?_ | refine nz32 ?_ | refine And.intro (by assumption) ?_))); (conv => whnf)
        exact kk
      obtain ⟨j, hj, ej⟩ := e0 h3
      have kk := k1 h3
      subst ej
      have i60 : vp_in (nI j) 60 := vp_in_nI (by omega) (by decide)
      have cj : (nI j).toNatClampNeg = j := nI_clamp (by omega)
      rw [cN_nI (by omega), ← d4 j (by omega)] at kk
      (repeat ((conv => whnf); (first | refine zo0 ?_ | refine zo1 ?_ | refine br_z ?_ | refine br_o ?_ | refine br_zn ?_ | refine br_on ?_ | refine nz2 ?_ | refine nz6 ?_ | refine nz32 ?_ | refine And.intro (by assumption) ?_))); (conv => whnf)
      refine ⟨fun h4 => absurd h4 (nI_pos (by omega)), fun h4 => ?_⟩
      (repeat ((conv => whnf); (first | refine zo0 ?_ | refine zo1 ?_ | refine br_z ?_ | refine br_o ?_ | refine br_zn ?_ | refine br_on ?_ | refine nz2 ?_ | refine nz6 ?_ | refine nz32 ?_ | refine And.intro (by assumption) ?_))); (conv => whnf)
      refine ⟨fun h5 => ?_, fun h5 => absurd (nI_lt (b := 60) (by omega) (by omega)) h5⟩
      (repeat ((conv => whnf); (first | refine zo0 ?_ | refine zo1 ?_ | refine br_z ?_ | refine br_o ?_ | refine br_zn ?_ | refine br_on ?_ | refine nz2 ?_ | refine nz6 ?_ | refine nz32 ?_ | refine And.intro (by assumption) ?_))); (conv => whnf)
      rw [cj]
      exact kk
    · subst ex
      have hx : (0 : Int32) ≤ 3 ∧ (3 : Int32) ≤ 3 := by decide
      obtain ⟨w1, w2, w3, w4⟩ := hs 3 (by decide)
      obtain ⟨o7, o9, o60⟩ := vok_sh hv (show 3 < 4 by decide)
      have d1 : D 47 1 = v 8 3 := w1
      have d2 : D 47 2 = nI (vn v 9 3) := w2.trans o9
      have d3 : D 47 3 = 1 - v 7 3 := w3
      have d4 : ∀ i, i < 60 → D 48 i = v 10 (60 * 3 + i) := w4
      (repeat ((conv => whnf); (first | refine zo0 ?_ | refine zo1 ?_ | refine br_z ?_ | refine br_o ?_ | refine br_zn ?_ | refine br_on ?_ | refine nz2 ?_ | refine nz6 ?_ | refine nz32 ?_ | refine And.intro (by assumption) ?_))); (conv => whnf)
      refine ⟨fun h1 => ?_, fun h1 => ?_⟩
      · have kk := kb (fun q => rn0 h1 q.2)
        (repeat ((conv => whnf); (first | refine zo0 ?_ | refine zo1 ?_ | refine br_z ?_ | refine br_o ?_ | refine br_zn ?_ | refine br_on ?_ | refine nz2 ?_ | refine nz6 ?_ | refine nz32 ?_ | refine And.intro (by assumption) ?_))); (conv => whnf)
        exact kk
      (repeat ((conv => whnf); (first | refine zo0 ?_ | refine zo1 ?_ | refine br_z ?_ | refine br_o ?_ | refine br_zn ?_ | refine br_on ?_ | refine nz2 ?_ | refine nz6 ?_ | refine nz32 ?_ | refine And.intro (by assumption) ?_))); (conv => whnf)
      refine ⟨fun h2 => ?_, fun h2 => ?_⟩
      · have kk := kb (fun q => rn3 2 h2 rfl (by omega) q.2)
        (repeat ((conv => whnf); (first | refine zo0 ?_ | refine zo1 ?_ | refine br_z ?_ | refine br_o ?_ | refine br_zn ?_ | refine br_on ?_ | refine nz2 ?_ | refine nz6 ?_ | refine nz32 ?_ | refine And.intro (by assumption) ?_))); (conv => whnf)
        exact kk
      have hy : 0 ≤ y ∧ y ≤ 2 := rq3 2 h1 h2
      (repeat ((conv => whnf); (first | refine zo0 ?_ | refine zo1 ?_ | refine br_z ?_ | refine br_o ?_ | refine br_zn ?_ | refine br_on ?_ | refine nz2 ?_ | refine nz6 ?_ | refine nz32 ?_ | refine And.intro (by assumption) ?_))); (conv => whnf)
      refine ⟨v, 3, hv, hs, Or.inr (Or.inr (Or.inr ⟨rfl, rfl⟩)), ?_⟩
      have k1 : vlck v 3 y z = 0 → K (some (.int (v 10 (60 * 3 + cN z)))) D L := fun e => by
        have k := hK D L fc_rf
        unfold qGet gGet at k
        rw [if_pos hx, if_pos hx, if_pos hy, if_pos hy, cN_3, if_pos e, if_pos e] at k
        exact k hi
      have k2 : ¬ vlck v 3 y z = 0 → K (some (.int (-2147483648))) (am_up D 0 16 (vlck v 3 y z)) L := fun e => by
        have k := hK (am_up D 0 16 (vlck v 3 y z)) L (fc_up (by decide) fc_rf)
        unfold qGet gGet at k
        rw [if_pos hx, if_pos hx, if_pos hy, if_pos hy, cN_3, if_neg e, if_neg e] at k
        exact k (ix_find hi)
      have e0 : vlck v 3 y z = 0 → ∃ j, j < vn v 9 3 ∧ z = nI j := fun e => lck_0 o9 o60 e
      generalize vlck v 3 y z = r at k1 k2 e0
      (repeat ((conv => whnf); (first | refine zo0 ?_ | refine zo1 ?_ | refine br_z ?_ | refine br_o ?_ | refine br_zn ?_ | refine br_on ?_ | refine nz2 ?_ | refine nz6 ?_ | refine nz32 ?_ | refine And.intro (by assumption) ?_))); (conv => whnf)
      refine ⟨fun h3 => ?_, fun h3 => ?_⟩
      rotate_left
      · have kk := k2 h3
        (repeat ((conv => whnf); (first | refine zo0 ?_ | refine zo1 ?_ | refine br_z ?_ | refine br_o ?_ | refine br_zn ?_ | refine br_on ?_ | refine nz2 ?_ | refine nz6 ?_ | refine nz32 ?_ | refine And.intro (by assumption) ?_))); (conv => whnf)
        exact kk
      obtain ⟨j, hj, ej⟩ := e0 h3
      have kk := k1 h3
      subst ej
      have i60 : vp_in (nI j) 60 := vp_in_nI (by omega) (by decide)
      have cj : (nI j).toNatClampNeg = j := nI_clamp (by omega)
      rw [cN_nI (by omega), ← d4 j (by omega)] at kk
      (repeat ((conv => whnf); (first | refine zo0 ?_ | refine zo1 ?_ | refine br_z ?_ | refine br_o ?_ | refine br_zn ?_ | refine br_on ?_ | refine nz2 ?_ | refine nz6 ?_ | refine nz32 ?_ | refine And.intro (by assumption) ?_))); (conv => whnf)
      refine ⟨fun h4 => absurd h4 (nI_pos (by omega)), fun h4 => ?_⟩
      (repeat ((conv => whnf); (first | refine zo0 ?_ | refine zo1 ?_ | refine br_z ?_ | refine br_o ?_ | refine br_zn ?_ | refine br_on ?_ | refine nz2 ?_ | refine nz6 ?_ | refine nz32 ?_ | refine And.intro (by assumption) ?_))); (conv => whnf)
      refine ⟨fun h5 => ?_, fun h5 => absurd (nI_lt (b := 60) (by omega) (by omega)) h5⟩
      (repeat ((conv => whnf); (first | refine zo0 ?_ | refine zo1 ?_ | refine br_z ?_ | refine br_o ?_ | refine br_zn ?_ | refine br_on ?_ | refine nz2 ?_ | refine nz6 ?_ | refine nz32 ?_ | refine And.intro (by assumption) ?_))); (conv => whnf)
      rw [cj]
      exact kk
    · have kk := kb (fun q => ex q.1)
      (repeat ((conv => whnf); (first | refine zo0 ?_ | refine zo1 ?_ | refine br_z ?_ | refine br_o ?_ | refine br_zn ?_ | refine br_on ?_ | refine nz2 ?_ | refine nz6 ?_ | refine nz32 ?_ | refine And.intro (by assumption) ?_))); (conv => whnf)
      exact kk
  · exact absurd h id
theorem clX_get (l : Launch) : ∀ (a : Nat) (ins : Instr) (b dd : Nat), csX_get[a]? = some (ins, b, dd) → am_Call l yX_get.cls 1 ins b dd (fnX_get a) := by
  intro a ins b dd h
  match a, h with
  | 0, h => cases h; exact am_callV (T := F_10) (N := 17) (okX_sheetOf l) wcX_sheetOf (am_m2 (i := 238) rfl rfl) wiX_sheetOf wsX_sheetOf inX rfl (by decide) (by decide +kernel) (by decide) (by decide)
  | 1, h => cases h; exact am_callS (okX_isForm l) wcX_isForm (am_m4 (i := 9) rfl rfl) wtX_isForm inX (by decide +kernel) (by decide) (by decide)
  | 2, h => cases h; exact am_callV (T := F_5) (N := 4) (okG_refusal l) wcG_refusal (am_m4 (i := 25) rfl rfl) wiG_refusal wsG_refusal inG rfl (by decide) (by decide +kernel) (by decide) (by decide)
  | 3, h => cases h; exact am_callV (T := F_5) (N := 4) (okG_item l) wcG_item (am_m4 (i := 38) rfl rfl) wiG_item wsG_item inG rfl (by decide) (by decide +kernel) (by decide) (by decide)
  | k + 4, h => simp [csX_get] at h
theorem okX_get (l : Launch) : am_Ok l yX_get prog_1_method_33_code 6 (some .int) 1 spX_get := am_ok_of (by decide +kernel) flX_ok kiX_ok klX_ok ckX_get (clX_get l) wpX_get
def fnX_write : Nat → am_Sp := fun a => match a with
  | 0 => spX_sheetOf
  | 1 => spX_found
  | 2 => spX_learnDay
  | 3 => spJ_min
  | 4 => spG_keep
  | _ => am_no
theorem mfX_write : ∀ a, am_mono (fnX_write a) := fun a => match a with
  | 0 => moX_sheetOf
  | 1 => moX_found
  | 2 => moX_learnDay
  | 3 => moJ_min
  | 4 => moG_keep
  | _ + 5 => am_no_mono
def spX_write : am_Sp := fun as D L K => match as with
  | [.ref 0, .int x, .int y] => ∃ v : vs_T, vok v ∧ ix D v ∧ ∀ (D' : am_D) (L' : am_L), fc D D' → ix D' (gWrite v x y) → K (some (.int (qWrite v x y))) D' L'
  | _ => False
theorem moX_write : am_mono spX_write := by
  intro as D L K K' hK h
  unfold spX_write at h ⊢
  split at h
  · obtain ⟨z0, z1, z2, hz⟩ := h
    exact ⟨z0, z1, z2, fun D' L' q1 q2 => hK _ _ _ (hz D' L' q1 q2)⟩
  · exact h
theorem wpX_write : ∀ (as : List Value) (D : am_D) (L : am_L) (K : am_K), spX_write as D L K → am_fit 6 as = true ∧ am_Wp false 0 cdX_write fnX_write K 0 (am_lo 6 as) [] D L := by
  intro as D L K h
  unfold spX_write at h
  split at h
  · rename_i x y
    obtain ⟨v, hv, hi, hK⟩ := h
    have kb : ¬ ((0 ≤ x ∧ x ≤ 1) ∧ (0 ≤ y ∧ y ≤ 3)) → K (some (.int (-2))) D L := fun q => by
      have k := hK D L fc_rf
      unfold qWrite gWrite at k
      by_cases c0 : (0 ≤ x ∧ x ≤ 1)
      · by_cases c1 : (0 ≤ y ∧ y ≤ 3)
        · exact absurd ⟨c0, c1⟩ q
        · rw [if_pos c0, if_pos c0, if_neg c1, if_neg c1] at k
          exact k hi
      · rw [if_neg c0, if_neg c0] at k
        exact k hi
    have hs := hi.1.2.2.2.2.2
    refine ⟨rfl, am_Wp_bl mfX_write [53] 60 _ _ _ _ _ ?_⟩
    (repeat ((conv => whnf); (first | refine zo0 ?_ | refine zo1 ?_ | refine br_z ?_ | refine br_o ?_ | refine br_zn ?_ | refine br_on ?_ | refine nz2 ?_ | refine nz6 ?_ | refine nz32 ?_ | refine And.intro (by assumption) ?_))); (conv => whnf)
    refine ⟨fun ex => ?_, fun ex => ?_, fun ex => ?_, fun ex => ?_, fun ex => ?_⟩
    · subst ex
      have hy : (0 : Int32) ≤ 0 ∧ (0 : Int32) ≤ 3 := by decide
      obtain ⟨w1, w2, w3, w4⟩ := hs 0 (by decide)
      obtain ⟨o7, o9, o60⟩ := vok_sh hv (show 0 < 4 by decide)
      have d1 : D 41 1 = v 8 0 := w1
      have d2 : D 41 2 = nI (vn v 9 0) := w2.trans o9
      have d3 : D 41 3 = 1 - v 7 0 := w3
      have d4 : ∀ i, i < 60 → D 42 i = v 10 (60 * 0 + i) := w4
      (repeat ((conv => whnf); (first | refine zo0 ?_ | refine zo1 ?_ | refine br_z ?_ | refine br_o ?_ | refine br_zn ?_ | refine br_on ?_ | refine nz2 ?_ | refine nz6 ?_ | refine nz32 ?_ | refine And.intro (by assumption) ?_))); (conv => whnf)
      refine ⟨fun h1 => ?_, fun h1 => ?_⟩
      · have kk := kb (fun q => rn0 h1 q.1)
        (repeat ((conv => whnf); (first | refine zo0 ?_ | refine zo1 ?_ | refine br_z ?_ | refine br_o ?_ | refine br_zn ?_ | refine br_on ?_ | refine nz2 ?_ | refine nz6 ?_ | refine nz32 ?_ | refine And.intro (by assumption) ?_))); (conv => whnf)
        exact kk
      (repeat ((conv => whnf); (first | refine zo0 ?_ | refine zo1 ?_ | refine br_z ?_ | refine br_o ?_ | refine br_zn ?_ | refine br_on ?_ | refine nz2 ?_ | refine nz6 ?_ | refine nz32 ?_ | refine And.intro (by assumption) ?_))); (conv => whnf)
      refine ⟨fun h2 => ?_, fun h2 => ?_⟩
      · have kk := kb (fun q => rn1 h2 q.1)
        (repeat ((conv => whnf); (first | refine zo0 ?_ | refine zo1 ?_ | refine br_z ?_ | refine br_o ?_ | refine br_zn ?_ | refine br_on ?_ | refine nz2 ?_ | refine nz6 ?_ | refine nz32 ?_ | refine And.intro (by assumption) ?_))); (conv => whnf)
        exact kk
      have hx : 0 ≤ x ∧ x ≤ 1 := rq1 h1 h2
      obtain ⟨c, hc, ec⟩ := rg_nI (n := 1) (by decide) hx
      (repeat ((conv => whnf); (first | refine zo0 ?_ | refine zo1 ?_ | refine br_z ?_ | refine br_o ?_ | refine br_zn ?_ | refine br_on ?_ | refine nz2 ?_ | refine nz6 ?_ | refine nz32 ?_ | refine And.intro (by assumption) ?_))); (conv => whnf)
      rw [d3]
      refine ⟨fun h3 => ?_, fun h3 => ?_⟩
      rotate_left
      · have e7 : v 7 0 = 0 := by
          rcases o7 with q | q
          · exact q
          · rw [q] at h3; exact absurd (by decide) h3
        have kk := hK (am_up D 0 16 1) L (fc_up (by decide) fc_rf)
        unfold qWrite gWrite at kk
        rw [if_pos hx, if_pos hx, if_pos hy, if_pos hy, cN_0, if_pos e7, if_pos e7] at kk
        (repeat ((conv => whnf); (first | refine zo0 ?_ | refine zo1 ?_ | refine br_z ?_ | refine br_o ?_ | refine br_zn ?_ | refine br_on ?_ | refine nz2 ?_ | refine nz6 ?_ | refine nz32 ?_ | refine And.intro (by assumption) ?_))); (conv => whnf)
        exact kk (ix_find hi)
      have e7 : ¬ v 7 0 = 0 := fun q => by rw [q] at h3; exact absurd h3 (by decide)
      have kg : ∀ D', fc D D' → ix D' (gWr v 0 c (min (vn v 9 0) 48)) → K (some (.int (nI (min (vn v 9 0) 48)))) D' L := fun D' f => by
        have kk := hK D' L f
        unfold qWrite gWrite at kk
        rw [if_pos hx, if_pos hx, if_pos hy, if_pos hy, cN_0, if_neg e7, if_neg e7, ec, cN_nI (by omega)] at kk
        exact kk
      subst ec
      obtain ⟨M, eM⟩ : ∃ M, min (vn v 9 0) 48 = M := ⟨_, rfl⟩
      rw [eM] at kg
      have loop : ∀ (m i : Nat) (D' : am_D), i + m = M → fc D D' → ix D' (gWr v 0 c i) → (∀ t, t < 48 → D' 28 (5 * t + c) = nI (va v (t + 1) 0 c)) → am_Wp false 0 cdX_write fnX_write K 53 [some (.ref 0), some (.int (nI c)), some (.int 0), some (.ref 41), some (.int (nI M)), some (.int (nI i))] [] D' L := by
        intro m
        induction m with
        | zero =>
          intro i D' hm hf h1 h28
          refine am_Wp_bl mfX_write [53] 30 _ _ _ _ _ ?_
          (repeat ((conv => whnf); (first | refine zo0 ?_ | refine zo1 ?_ | refine br_z ?_ | refine br_o ?_ | refine br_zn ?_ | refine br_on ?_ | refine nz2 ?_ | refine nz6 ?_ | refine nz32 ?_ | refine And.intro (by assumption) ?_))); (conv => whnf)
          refine ⟨fun h4 => ?_, fun h4 => absurd (nI_le (by omega) (by omega)) h4⟩
          (repeat ((conv => whnf); (first | refine zo0 ?_ | refine zo1 ?_ | refine br_z ?_ | refine br_o ?_ | refine br_zn ?_ | refine br_on ?_ | refine nz2 ?_ | refine nz6 ?_ | refine nz32 ?_ | refine And.intro (by assumption) ?_))); (conv => whnf)
          rw [show i = M by omega] at h1
          exact kg D' hf h1
        | succ m ih =>
          intro i D' hm hf h1 h28
          have e5 : nI i * 5 + nI c = nI (5 * i + c) := by rw [show (5 : Int32) = nI 5 by decide +kernel, pk_mul, nI_add, Nat.mul_comm]
          have i240 : vp_in (nI i * 5 + nI c) 240 := by rw [e5]; exact vp_in_nI (by omega) (by decide)
          have c240 : (nI i * 5 + nI c).toNatClampNeg = 5 * i + c := by rw [e5]; exact nI_clamp (by omega)
          have hv' : vok (gWr v 0 c i) := vok_10 (fun q hq => gWr_c hq) hv
          have hs' := h1.1.2.2.2.2.2
          refine am_Wp_bl mfX_write [53] 60 _ _ _ _ _ ?_
          (repeat ((conv => whnf); (first | refine zo0 ?_ | refine zo1 ?_ | refine br_z ?_ | refine br_o ?_ | refine br_zn ?_ | refine br_on ?_ | refine nz2 ?_ | refine nz6 ?_ | refine nz32 ?_ | refine And.intro (by assumption) ?_))); (conv => whnf)
          refine ⟨fun h4 => absurd h4 (nI_ge (by omega) (by omega)), fun h4 => ?_⟩
          (repeat ((conv => whnf); (first | refine zo0 ?_ | refine zo1 ?_ | refine br_z ?_ | refine br_o ?_ | refine br_zn ?_ | refine br_on ?_ | refine nz2 ?_ | refine nz6 ?_ | refine nz32 ?_ | refine And.intro (by assumption) ?_))); (conv => whnf)
          rw [c240, h28 i (by omega)]
          refine ⟨gWr v 0 c i, 0, i, hv', hs', Or.inl ⟨rfl, rfl⟩, rfl, (show i < vn v 9 0 by omega), fun D2 eD => ?_⟩
          subst eD
          (repeat ((conv => whnf); (first | refine zo0 ?_ | refine zo1 ?_ | refine br_z ?_ | refine br_o ?_ | refine br_zn ?_ | refine br_on ?_ | refine nz2 ?_ | refine nz6 ?_ | refine nz32 ?_ | refine And.intro (by assumption) ?_))); (conv => whnf)
          rw [nI_1]
          refine ih (i + 1) _ (by omega) (fc_up (by decide) hf) ?_ (fun t ht => by rw [am_up_ne (by decide)]; exact h28 t ht)
          have en : am_up (gWr v 0 c i) 10 (60 * 0 + i) (cut (v 8 0) (nI (va v (i + 1) 0 c))) = gWr v 0 c (i + 1) := gWr_s v 0 c i
          rw [← en]
          exact ix_sh h1 (fun q hq => am_up_ne (by omega)) (ish_item hs' (by decide) (by omega)) (fun q hq => am_up_ne (by omega))
      (repeat ((conv => whnf); (first | refine zo0 ?_ | refine zo1 ?_ | refine br_z ?_ | refine br_o ?_ | refine br_zn ?_ | refine br_on ?_ | refine nz2 ?_ | refine nz6 ?_ | refine nz32 ?_ | refine And.intro (by assumption) ?_))); (conv => whnf)
      refine ⟨v, hv, hi, fun D1 f1 i1 y1 => ?_⟩
      have b2 : D1 41 2 = nI (vn v 9 0) := ((i1.1.2.2.2.2.2 0 (by decide)).2.1).trans o9
      (repeat ((conv => whnf); (first | refine zo0 ?_ | refine zo1 ?_ | refine br_z ?_ | refine br_o ?_ | refine br_zn ?_ | refine br_on ?_ | refine nz2 ?_ | refine nz6 ?_ | refine nz32 ?_ | refine And.intro (by assumption) ?_))); (conv => whnf)
      rw [b2, show (48 : Int32) = nI 48 by decide +kernel, mn_nI (by omega) (by omega), eM]
      (repeat ((conv => whnf); (first | refine zo0 ?_ | refine zo1 ?_ | refine br_z ?_ | refine br_o ?_ | refine br_zn ?_ | refine br_on ?_ | refine nz2 ?_ | refine nz6 ?_ | refine nz32 ?_ | refine And.intro (by assumption) ?_))); (conv => whnf)
      refine loop M 0 D1 (by omega) f1 (by rw [gWr_0]; exact i1) (fun t ht => ?_)
      have yy := y1.1.1 t ht
      rcases (show c = 0 ∨ c = 1 by omega) with rfl | rfl
      · exact yy.1
      · exact yy.2.1
    · subst ex
      have hy : (0 : Int32) ≤ 1 ∧ (1 : Int32) ≤ 3 := by decide
      obtain ⟨w1, w2, w3, w4⟩ := hs 1 (by decide)
      obtain ⟨o7, o9, o60⟩ := vok_sh hv (show 1 < 4 by decide)
      have d1 : D 43 1 = v 8 1 := w1
      have d2 : D 43 2 = nI (vn v 9 1) := w2.trans o9
      have d3 : D 43 3 = 1 - v 7 1 := w3
      have d4 : ∀ i, i < 60 → D 44 i = v 10 (60 * 1 + i) := w4
      (repeat ((conv => whnf); (first | refine zo0 ?_ | refine zo1 ?_ | refine br_z ?_ | refine br_o ?_ | refine br_zn ?_ | refine br_on ?_ | refine nz2 ?_ | refine nz6 ?_ | refine nz32 ?_ | refine And.intro (by assumption) ?_))); (conv => whnf)
      refine ⟨fun h1 => ?_, fun h1 => ?_⟩
      · have kk := kb (fun q => rn0 h1 q.1)
        (repeat ((conv => whnf); (first | refine zo0 ?_ | refine zo1 ?_ | refine br_z ?_ | refine br_o ?_ | refine br_zn ?_ | refine br_on ?_ | refine nz2 ?_ | refine nz6 ?_ | refine nz32 ?_ | refine And.intro (by assumption) ?_))); (conv => whnf)
        exact kk
      (repeat ((conv => whnf); (first | refine zo0 ?_ | refine zo1 ?_ | refine br_z ?_ | refine br_o ?_ | refine br_zn ?_ | refine br_on ?_ | refine nz2 ?_ | refine nz6 ?_ | refine nz32 ?_ | refine And.intro (by assumption) ?_))); (conv => whnf)
      refine ⟨fun h2 => ?_, fun h2 => ?_⟩
      · have kk := kb (fun q => rn1 h2 q.1)
        (repeat ((conv => whnf); (first | refine zo0 ?_ | refine zo1 ?_ | refine br_z ?_ | refine br_o ?_ | refine br_zn ?_ | refine br_on ?_ | refine nz2 ?_ | refine nz6 ?_ | refine nz32 ?_ | refine And.intro (by assumption) ?_))); (conv => whnf)
        exact kk
      have hx : 0 ≤ x ∧ x ≤ 1 := rq1 h1 h2
      obtain ⟨c, hc, ec⟩ := rg_nI (n := 1) (by decide) hx
      (repeat ((conv => whnf); (first | refine zo0 ?_ | refine zo1 ?_ | refine br_z ?_ | refine br_o ?_ | refine br_zn ?_ | refine br_on ?_ | refine nz2 ?_ | refine nz6 ?_ | refine nz32 ?_ | refine And.intro (by assumption) ?_))); (conv => whnf)
      rw [d3]
      refine ⟨fun h3 => ?_, fun h3 => ?_⟩
      rotate_left
      · have e7 : v 7 1 = 0 := by
          rcases o7 with q | q
          · exact q
          · rw [q] at h3; exact absurd (by decide) h3
        have kk := hK (am_up D 0 16 1) L (fc_up (by decide) fc_rf)
        unfold qWrite gWrite at kk
        rw [if_pos hx, if_pos hx, if_pos hy, if_pos hy, cN_1, if_pos e7, if_pos e7] at kk
        (repeat ((conv => whnf); (first | refine zo0 ?_ | refine zo1 ?_ | refine br_z ?_ | refine br_o ?_ | refine br_zn ?_ | refine br_on ?_ | refine nz2 ?_ | refine nz6 ?_ | refine nz32 ?_ | refine And.intro (by assumption) ?_))); (conv => whnf)
        exact kk (ix_find hi)
      have e7 : ¬ v 7 1 = 0 := fun q => by rw [q] at h3; exact absurd h3 (by decide)
      have kg : ∀ D', fc D D' → ix D' (gWr v 1 c (min (vn v 9 1) 48)) → K (some (.int (nI (min (vn v 9 1) 48)))) D' L := fun D' f => by
        have kk := hK D' L f
        unfold qWrite gWrite at kk
        rw [if_pos hx, if_pos hx, if_pos hy, if_pos hy, cN_1, if_neg e7, if_neg e7, ec, cN_nI (by omega)] at kk
        exact kk
      subst ec
      obtain ⟨M, eM⟩ : ∃ M, min (vn v 9 1) 48 = M := ⟨_, rfl⟩
      rw [eM] at kg
      have loop : ∀ (m i : Nat) (D' : am_D), i + m = M → fc D D' → ix D' (gWr v 1 c i) → (∀ t, t < 48 → D' 28 (5 * t + c) = nI (va v (t + 1) 0 c)) → am_Wp false 0 cdX_write fnX_write K 53 [some (.ref 0), some (.int (nI c)), some (.int 1), some (.ref 43), some (.int (nI M)), some (.int (nI i))] [] D' L := by
        intro m
        induction m with
        | zero =>
          intro i D' hm hf h1 h28
          refine am_Wp_bl mfX_write [53] 30 _ _ _ _ _ ?_
          (repeat ((conv => whnf); (first | refine zo0 ?_ | refine zo1 ?_ | refine br_z ?_ | refine br_o ?_ | refine br_zn ?_ | refine br_on ?_ | refine nz2 ?_ | refine nz6 ?_ | refine nz32 ?_ | refine And.intro (by assumption) ?_))); (conv => whnf)
          refine ⟨fun h4 => ?_, fun h4 => absurd (nI_le (by omega) (by omega)) h4⟩
          (repeat ((conv => whnf); (first | refine zo0 ?_ | refine zo1 ?_ | refine br_z ?_ | refine br_o ?_ | refine br_zn ?_ | refine br_on ?_ | refine nz2 ?_ | refine nz6 ?_ | refine nz32 ?_ | refine And.intro (by assumption) ?_))); (conv => whnf)
          rw [show i = M by omega] at h1
          exact kg D' hf h1
        | succ m ih =>
          intro i D' hm hf h1 h28
          have e5 : nI i * 5 + nI c = nI (5 * i + c) := by rw [show (5 : Int32) = nI 5 by decide +kernel, pk_mul, nI_add, Nat.mul_comm]
          have i240 : vp_in (nI i * 5 + nI c) 240 := by rw [e5]; exact vp_in_nI (by omega) (by decide)
          have c240 : (nI i * 5 + nI c).toNatClampNeg = 5 * i + c := by rw [e5]; exact nI_clamp (by omega)
          have hv' : vok (gWr v 1 c i) := vok_10 (fun q hq => gWr_c hq) hv
          have hs' := h1.1.2.2.2.2.2
          refine am_Wp_bl mfX_write [53] 60 _ _ _ _ _ ?_
          (repeat ((conv => whnf); (first | refine zo0 ?_ | refine zo1 ?_ | refine br_z ?_ | refine br_o ?_ | refine br_zn ?_ | refine br_on ?_ | refine nz2 ?_ | refine nz6 ?_ | refine nz32 ?_ | refine And.intro (by assumption) ?_))); (conv => whnf)
          refine ⟨fun h4 => absurd h4 (nI_ge (by omega) (by omega)), fun h4 => ?_⟩
          (repeat ((conv => whnf); (first | refine zo0 ?_ | refine zo1 ?_ | refine br_z ?_ | refine br_o ?_ | refine br_zn ?_ | refine br_on ?_ | refine nz2 ?_ | refine nz6 ?_ | refine nz32 ?_ | refine And.intro (by assumption) ?_))); (conv => whnf)
          rw [c240, h28 i (by omega)]
          refine ⟨gWr v 1 c i, 1, i, hv', hs', Or.inr (Or.inl ⟨rfl, rfl⟩), rfl, (show i < vn v 9 1 by omega), fun D2 eD => ?_⟩
          subst eD
          (repeat ((conv => whnf); (first | refine zo0 ?_ | refine zo1 ?_ | refine br_z ?_ | refine br_o ?_ | refine br_zn ?_ | refine br_on ?_ | refine nz2 ?_ | refine nz6 ?_ | refine nz32 ?_ | refine And.intro (by assumption) ?_))); (conv => whnf)
          rw [nI_1]
          refine ih (i + 1) _ (by omega) (fc_up (by decide) hf) ?_ (fun t ht => by rw [am_up_ne (by decide)]; exact h28 t ht)
          have en : am_up (gWr v 1 c i) 10 (60 * 1 + i) (cut (v 8 1) (nI (va v (i + 1) 0 c))) = gWr v 1 c (i + 1) := gWr_s v 1 c i
          rw [← en]
          exact ix_sh h1 (fun q hq => am_up_ne (by omega)) (ish_item hs' (by decide) (by omega)) (fun q hq => am_up_ne (by omega))
      (repeat ((conv => whnf); (first | refine zo0 ?_ | refine zo1 ?_ | refine br_z ?_ | refine br_o ?_ | refine br_zn ?_ | refine br_on ?_ | refine nz2 ?_ | refine nz6 ?_ | refine nz32 ?_ | refine And.intro (by assumption) ?_))); (conv => whnf)
      refine ⟨v, hv, hi, fun D1 f1 i1 y1 => ?_⟩
      have b2 : D1 43 2 = nI (vn v 9 1) := ((i1.1.2.2.2.2.2 1 (by decide)).2.1).trans o9
      (repeat ((conv => whnf); (first | refine zo0 ?_ | refine zo1 ?_ | refine br_z ?_ | refine br_o ?_ | refine br_zn ?_ | refine br_on ?_ | refine nz2 ?_ | refine nz6 ?_ | refine nz32 ?_ | refine And.intro (by assumption) ?_))); (conv => whnf)
      rw [b2, show (48 : Int32) = nI 48 by decide +kernel, mn_nI (by omega) (by omega), eM]
      (repeat ((conv => whnf); (first | refine zo0 ?_ | refine zo1 ?_ | refine br_z ?_ | refine br_o ?_ | refine br_zn ?_ | refine br_on ?_ | refine nz2 ?_ | refine nz6 ?_ | refine nz32 ?_ | refine And.intro (by assumption) ?_))); (conv => whnf)
      refine loop M 0 D1 (by omega) f1 (by rw [gWr_0]; exact i1) (fun t ht => ?_)
      have yy := y1.1.1 t ht
      rcases (show c = 0 ∨ c = 1 by omega) with rfl | rfl
      · exact yy.1
      · exact yy.2.1
    · subst ex
      have hy : (0 : Int32) ≤ 2 ∧ (2 : Int32) ≤ 3 := by decide
      obtain ⟨w1, w2, w3, w4⟩ := hs 2 (by decide)
      obtain ⟨o7, o9, o60⟩ := vok_sh hv (show 2 < 4 by decide)
      have d1 : D 45 1 = v 8 2 := w1
      have d2 : D 45 2 = nI (vn v 9 2) := w2.trans o9
      have d3 : D 45 3 = 1 - v 7 2 := w3
      have d4 : ∀ i, i < 60 → D 46 i = v 10 (60 * 2 + i) := w4
      (repeat ((conv => whnf); (first | refine zo0 ?_ | refine zo1 ?_ | refine br_z ?_ | refine br_o ?_ | refine br_zn ?_ | refine br_on ?_ | refine nz2 ?_ | refine nz6 ?_ | refine nz32 ?_ | refine And.intro (by assumption) ?_))); (conv => whnf)
      refine ⟨fun h1 => ?_, fun h1 => ?_⟩
      · have kk := kb (fun q => rn0 h1 q.1)
        (repeat ((conv => whnf); (first | refine zo0 ?_ | refine zo1 ?_ | refine br_z ?_ | refine br_o ?_ | refine br_zn ?_ | refine br_on ?_ | refine nz2 ?_ | refine nz6 ?_ | refine nz32 ?_ | refine And.intro (by assumption) ?_))); (conv => whnf)
        exact kk
      (repeat ((conv => whnf); (first | refine zo0 ?_ | refine zo1 ?_ | refine br_z ?_ | refine br_o ?_ | refine br_zn ?_ | refine br_on ?_ | refine nz2 ?_ | refine nz6 ?_ | refine nz32 ?_ | refine And.intro (by assumption) ?_))); (conv => whnf)
      refine ⟨fun h2 => ?_, fun h2 => ?_⟩
      · have kk := kb (fun q => rn1 h2 q.1)
        (repeat ((conv => whnf); (first | refine zo0 ?_ | refine zo1 ?_ | refine br_z ?_ | refine br_o ?_ | refine br_zn ?_ | refine br_on ?_ | refine nz2 ?_ | refine nz6 ?_ | refine nz32 ?_ | refine And.intro (by assumption) ?_))); (conv => whnf)
        exact kk
      have hx : 0 ≤ x ∧ x ≤ 1 := rq1 h1 h2
      obtain ⟨c, hc, ec⟩ := rg_nI (n := 1) (by decide) hx
      (repeat ((conv => whnf); (first | refine zo0 ?_ | refine zo1 ?_ | refine br_z ?_ | refine br_o ?_ | refine br_zn ?_ | refine br_on ?_ | refine nz2 ?_ | refine nz6 ?_ | refine nz32 ?_ | refine And.intro (by assumption) ?_))); (conv => whnf)
      rw [d3]
      refine ⟨fun h3 => ?_, fun h3 => ?_⟩
      rotate_left
      · have e7 : v 7 2 = 0 := by
          rcases o7 with q | q
          · exact q
          · rw [q] at h3; exact absurd (by decide) h3
        have kk := hK (am_up D 0 16 1) L (fc_up (by decide) fc_rf)
        unfold qWrite gWrite at kk
        rw [if_pos hx, if_pos hx, if_pos hy, if_pos hy, cN_2, if_pos e7, if_pos e7] at kk
        (repeat ((conv => whnf); (first | refine zo0 ?_ | refine zo1 ?_ | refine br_z ?_ | refine br_o ?_ | refine br_zn ?_ | refine br_on ?_ | refine nz2 ?_ | refine nz6 ?_ | refine nz32 ?_ | refine And.intro (by assumption) ?_))); (conv => whnf)
        exact kk (ix_find hi)
      have e7 : ¬ v 7 2 = 0 := fun q => by rw [q] at h3; exact absurd h3 (by decide)
      have kg : ∀ D', fc D D' → ix D' (gWr v 2 c (min (vn v 9 2) 48)) → K (some (.int (nI (min (vn v 9 2) 48)))) D' L := fun D' f => by
        have kk := hK D' L f
        unfold qWrite gWrite at kk
        rw [if_pos hx, if_pos hx, if_pos hy, if_pos hy, cN_2, if_neg e7, if_neg e7, ec, cN_nI (by omega)] at kk
        exact kk
      subst ec
      obtain ⟨M, eM⟩ : ∃ M, min (vn v 9 2) 48 = M := ⟨_, rfl⟩
      rw [eM] at kg
      have loop : ∀ (m i : Nat) (D' : am_D), i + m = M → fc D D' → ix D' (gWr v 2 c i) → (∀ t, t < 48 → D' 28 (5 * t + c) = nI (va v (t + 1) 0 c)) → am_Wp false 0 cdX_write fnX_write K 53 [some (.ref 0), some (.int (nI c)), some (.int 2), some (.ref 45), some (.int (nI M)), some (.int (nI i))] [] D' L := by
        intro m
        induction m with
        | zero =>
          intro i D' hm hf h1 h28
          refine am_Wp_bl mfX_write [53] 30 _ _ _ _ _ ?_
          (repeat ((conv => whnf); (first | refine zo0 ?_ | refine zo1 ?_ | refine br_z ?_ | refine br_o ?_ | refine br_zn ?_ | refine br_on ?_ | refine nz2 ?_ | refine nz6 ?_ | refine nz32 ?_ | refine And.intro (by assumption) ?_))); (conv => whnf)
          refine ⟨fun h4 => ?_, fun h4 => absurd (nI_le (by omega) (by omega)) h4⟩
          (repeat ((conv => whnf); (first | refine zo0 ?_ | refine zo1 ?_ | refine br_z ?_ | refine br_o ?_ | refine br_zn ?_ | refine br_on ?_ | refine nz2 ?_ | refine nz6 ?_ | refine nz32 ?_ | refine And.intro (by assumption) ?_))); (conv => whnf)
          rw [show i = M by omega] at h1
          exact kg D' hf h1
        | succ m ih =>
          intro i D' hm hf h1 h28
          have e5 : nI i * 5 + nI c = nI (5 * i + c) := by rw [show (5 : Int32) = nI 5 by decide +kernel, pk_mul, nI_add, Nat.mul_comm]
          have i240 : vp_in (nI i * 5 + nI c) 240 := by rw [e5]; exact vp_in_nI (by omega) (by decide)
          have c240 : (nI i * 5 + nI c).toNatClampNeg = 5 * i + c := by rw [e5]; exact nI_clamp (by omega)
          have hv' : vok (gWr v 2 c i) := vok_10 (fun q hq => gWr_c hq) hv
          have hs' := h1.1.2.2.2.2.2
          refine am_Wp_bl mfX_write [53] 60 _ _ _ _ _ ?_
          (repeat ((conv => whnf); (first | refine zo0 ?_ | refine zo1 ?_ | refine br_z ?_ | refine br_o ?_ | refine br_zn ?_ | refine br_on ?_ | refine nz2 ?_ | refine nz6 ?_ | refine nz32 ?_ | refine And.intro (by assumption) ?_))); (conv => whnf)
          refine ⟨fun h4 => absurd h4 (nI_ge (by omega) (by omega)), fun h4 => ?_⟩
          (repeat ((conv => whnf); (first | refine zo0 ?_ | refine zo1 ?_ | refine br_z ?_ | refine br_o ?_ | refine br_zn ?_ | refine br_on ?_ | refine nz2 ?_ | refine nz6 ?_ | refine nz32 ?_ | refine And.intro (by assumption) ?_))); (conv => whnf)
          rw [c240, h28 i (by omega)]
          refine ⟨gWr v 2 c i, 2, i, hv', hs', Or.inr (Or.inr (Or.inl ⟨rfl, rfl⟩)), rfl, (show i < vn v 9 2 by omega), fun D2 eD => ?_⟩
          subst eD
          (repeat ((conv => whnf); (first | refine zo0 ?_ | refine zo1 ?_ | refine br_z ?_ | refine br_o ?_ | refine br_zn ?_ | refine br_on ?_ | refine nz2 ?_ | refine nz6 ?_ | refine nz32 ?_ | refine And.intro (by assumption) ?_))); (conv => whnf)
          rw [nI_1]
          refine ih (i + 1) _ (by omega) (fc_up (by decide) hf) ?_ (fun t ht => by rw [am_up_ne (by decide)]; exact h28 t ht)
          have en : am_up (gWr v 2 c i) 10 (60 * 2 + i) (cut (v 8 2) (nI (va v (i + 1) 0 c))) = gWr v 2 c (i + 1) := gWr_s v 2 c i
          rw [← en]
          exact ix_sh h1 (fun q hq => am_up_ne (by omega)) (ish_item hs' (by decide) (by omega)) (fun q hq => am_up_ne (by omega))
      (repeat ((conv => whnf); (first | refine zo0 ?_ | refine zo1 ?_ | refine br_z ?_ | refine br_o ?_ | refine br_zn ?_ | refine br_on ?_ | refine nz2 ?_ | refine nz6 ?_ | refine nz32 ?_ | refine And.intro (by assumption) ?_))); (conv => whnf)
      refine ⟨v, hv, hi, fun D1 f1 i1 y1 => ?_⟩
      have b2 : D1 45 2 = nI (vn v 9 2) := ((i1.1.2.2.2.2.2 2 (by decide)).2.1).trans o9
      (repeat ((conv => whnf); (first | refine zo0 ?_ | refine zo1 ?_ | refine br_z ?_ | refine br_o ?_ | refine br_zn ?_ | refine br_on ?_ | refine nz2 ?_ | refine nz6 ?_ | refine nz32 ?_ | refine And.intro (by assumption) ?_))); (conv => whnf)
      rw [b2, show (48 : Int32) = nI 48 by decide +kernel, mn_nI (by omega) (by omega), eM]
      (repeat ((conv => whnf); (first | refine zo0 ?_ | refine zo1 ?_ | refine br_z ?_ | refine br_o ?_ | refine br_zn ?_ | refine br_on ?_ | refine nz2 ?_ | refine nz6 ?_ | refine nz32 ?_ | refine And.intro (by assumption) ?_))); (conv => whnf)
      refine loop M 0 D1 (by omega) f1 (by rw [gWr_0]; exact i1) (fun t ht => ?_)
      have yy := y1.1.1 t ht
      rcases (show c = 0 ∨ c = 1 by omega) with rfl | rfl
      · exact yy.1
      · exact yy.2.1
    · subst ex
      have hy : (0 : Int32) ≤ 3 ∧ (3 : Int32) ≤ 3 := by decide
      obtain ⟨w1, w2, w3, w4⟩ := hs 3 (by decide)
      obtain ⟨o7, o9, o60⟩ := vok_sh hv (show 3 < 4 by decide)
      have d1 : D 47 1 = v 8 3 := w1
      have d2 : D 47 2 = nI (vn v 9 3) := w2.trans o9
      have d3 : D 47 3 = 1 - v 7 3 := w3
      have d4 : ∀ i, i < 60 → D 48 i = v 10 (60 * 3 + i) := w4
      (repeat ((conv => whnf); (first | refine zo0 ?_ | refine zo1 ?_ | refine br_z ?_ | refine br_o ?_ | refine br_zn ?_ | refine br_on ?_ | refine nz2 ?_ | refine nz6 ?_ | refine nz32 ?_ | refine And.intro (by assumption) ?_))); (conv => whnf)
      refine ⟨fun h1 => ?_, fun h1 => ?_⟩
      · have kk := kb (fun q => rn0 h1 q.1)
        (repeat ((conv => whnf); (first | refine zo0 ?_ | refine zo1 ?_ | refine br_z ?_ | refine br_o ?_ | refine br_zn ?_ | refine br_on ?_ | refine nz2 ?_ | refine nz6 ?_ | refine nz32 ?_ | refine And.intro (by assumption) ?_))); (conv => whnf)
        exact kk
      (repeat ((conv => whnf); (first | refine zo0 ?_ | refine zo1 ?_ | refine br_z ?_ | refine br_o ?_ | refine br_zn ?_ | refine br_on ?_ | refine nz2 ?_ | refine nz6 ?_ | refine nz32 ?_ | refine And.intro (by assumption) ?_))); (conv => whnf)
      refine ⟨fun h2 => ?_, fun h2 => ?_⟩
      · have kk := kb (fun q => rn1 h2 q.1)
        (repeat ((conv => whnf); (first | refine zo0 ?_ | refine zo1 ?_ | refine br_z ?_ | refine br_o ?_ | refine br_zn ?_ | refine br_on ?_ | refine nz2 ?_ | refine nz6 ?_ | refine nz32 ?_ | refine And.intro (by assumption) ?_))); (conv => whnf)
        exact kk
      have hx : 0 ≤ x ∧ x ≤ 1 := rq1 h1 h2
      obtain ⟨c, hc, ec⟩ := rg_nI (n := 1) (by decide) hx
      (repeat ((conv => whnf); (first | refine zo0 ?_ | refine zo1 ?_ | refine br_z ?_ | refine br_o ?_ | refine br_zn ?_ | refine br_on ?_ | refine nz2 ?_ | refine nz6 ?_ | refine nz32 ?_ | refine And.intro (by assumption) ?_))); (conv => whnf)
      rw [d3]
      refine ⟨fun h3 => ?_, fun h3 => ?_⟩
      rotate_left
      · have e7 : v 7 3 = 0 := by
          rcases o7 with q | q
          · exact q
          · rw [q] at h3; exact absurd (by decide) h3
        have kk := hK (am_up D 0 16 1) L (fc_up (by decide) fc_rf)
        unfold qWrite gWrite at kk
        rw [if_pos hx, if_pos hx, if_pos hy, if_pos hy, cN_3, if_pos e7, if_pos e7] at kk
        (repeat ((conv => whnf); (first | refine zo0 ?_ | refine zo1 ?_ | refine br_z ?_ | refine br_o ?_ | refine br_zn ?_ | refine br_on ?_ | refine nz2 ?_ | refine nz6 ?_ | refine nz32 ?_ | refine And.intro (by assumption) ?_))); (conv => whnf)
        exact kk (ix_find hi)
      have e7 : ¬ v 7 3 = 0 := fun q => by rw [q] at h3; exact absurd h3 (by decide)
      have kg : ∀ D', fc D D' → ix D' (gWr v 3 c (min (vn v 9 3) 48)) → K (some (.int (nI (min (vn v 9 3) 48)))) D' L := fun D' f => by
        have kk := hK D' L f
        unfold qWrite gWrite at kk
        rw [if_pos hx, if_pos hx, if_pos hy, if_pos hy, cN_3, if_neg e7, if_neg e7, ec, cN_nI (by omega)] at kk
        exact kk
      subst ec
      obtain ⟨M, eM⟩ : ∃ M, min (vn v 9 3) 48 = M := ⟨_, rfl⟩
      rw [eM] at kg
      have loop : ∀ (m i : Nat) (D' : am_D), i + m = M → fc D D' → ix D' (gWr v 3 c i) → (∀ t, t < 48 → D' 28 (5 * t + c) = nI (va v (t + 1) 0 c)) → am_Wp false 0 cdX_write fnX_write K 53 [some (.ref 0), some (.int (nI c)), some (.int 3), some (.ref 47), some (.int (nI M)), some (.int (nI i))] [] D' L := by
        intro m
        induction m with
        | zero =>
          intro i D' hm hf h1 h28
          refine am_Wp_bl mfX_write [53] 30 _ _ _ _ _ ?_
          (repeat ((conv => whnf); (first | refine zo0 ?_ | refine zo1 ?_ | refine br_z ?_ | refine br_o ?_ | refine br_zn ?_ | refine br_on ?_ | refine nz2 ?_ | refine nz6 ?_ | refine nz32 ?_ | refine And.intro (by assumption) ?_))); (conv => whnf)
          refine ⟨fun h4 => ?_, fun h4 => absurd (nI_le (by omega) (by omega)) h4⟩
          (repeat ((conv => whnf); (first | refine zo0 ?_ | refine zo1 ?_ | refine br_z ?_ | refine br_o ?_ | refine br_zn ?_ | refine br_on ?_ | refine nz2 ?_ | refine nz6 ?_ | refine nz32 ?_ | refine And.intro (by assumption) ?_))); (conv => whnf)
          rw [show i = M by omega] at h1
          exact kg D' hf h1
        | succ m ih =>
          intro i D' hm hf h1 h28
          have e5 : nI i * 5 + nI c = nI (5 * i + c) := by rw [show (5 : Int32) = nI 5 by decide +kernel, pk_mul, nI_add, Nat.mul_comm]
          have i240 : vp_in (nI i * 5 + nI c) 240 := by rw [e5]; exact vp_in_nI (by omega) (by decide)
          have c240 : (nI i * 5 + nI c).toNatClampNeg = 5 * i + c := by rw [e5]; exact nI_clamp (by omega)
          have hv' : vok (gWr v 3 c i) := vok_10 (fun q hq => gWr_c hq) hv
          have hs' := h1.1.2.2.2.2.2
          refine am_Wp_bl mfX_write [53] 60 _ _ _ _ _ ?_
          (repeat ((conv => whnf); (first | refine zo0 ?_ | refine zo1 ?_ | refine br_z ?_ | refine br_o ?_ | refine br_zn ?_ | refine br_on ?_ | refine nz2 ?_ | refine nz6 ?_ | refine nz32 ?_ | refine And.intro (by assumption) ?_))); (conv => whnf)
          refine ⟨fun h4 => absurd h4 (nI_ge (by omega) (by omega)), fun h4 => ?_⟩
          (repeat ((conv => whnf); (first | refine zo0 ?_ | refine zo1 ?_ | refine br_z ?_ | refine br_o ?_ | refine br_zn ?_ | refine br_on ?_ | refine nz2 ?_ | refine nz6 ?_ | refine nz32 ?_ | refine And.intro (by assumption) ?_))); (conv => whnf)
          rw [c240, h28 i (by omega)]
          refine ⟨gWr v 3 c i, 3, i, hv', hs', Or.inr (Or.inr (Or.inr ⟨rfl, rfl⟩)), rfl, (show i < vn v 9 3 by omega), fun D2 eD => ?_⟩
          subst eD
          (repeat ((conv => whnf); (first | refine zo0 ?_ | refine zo1 ?_ | refine br_z ?_ | refine br_o ?_ | refine br_zn ?_ | refine br_on ?_ | refine nz2 ?_ | refine nz6 ?_ | refine nz32 ?_ | refine And.intro (by assumption) ?_))); (conv => whnf)
          rw [nI_1]
          refine ih (i + 1) _ (by omega) (fc_up (by decide) hf) ?_ (fun t ht => by rw [am_up_ne (by decide)]; exact h28 t ht)
          have en : am_up (gWr v 3 c i) 10 (60 * 3 + i) (cut (v 8 3) (nI (va v (i + 1) 0 c))) = gWr v 3 c (i + 1) := gWr_s v 3 c i
          rw [← en]
          exact ix_sh h1 (fun q hq => am_up_ne (by omega)) (ish_item hs' (by decide) (by omega)) (fun q hq => am_up_ne (by omega))
      (repeat ((conv => whnf); (first | refine zo0 ?_ | refine zo1 ?_ | refine br_z ?_ | refine br_o ?_ | refine br_zn ?_ | refine br_on ?_ | refine nz2 ?_ | refine nz6 ?_ | refine nz32 ?_ | refine And.intro (by assumption) ?_))); (conv => whnf)
      refine ⟨v, hv, hi, fun D1 f1 i1 y1 => ?_⟩
      have b2 : D1 47 2 = nI (vn v 9 3) := ((i1.1.2.2.2.2.2 3 (by decide)).2.1).trans o9
      (repeat ((conv => whnf); (first | refine zo0 ?_ | refine zo1 ?_ | refine br_z ?_ | refine br_o ?_ | refine br_zn ?_ | refine br_on ?_ | refine nz2 ?_ | refine nz6 ?_ | refine nz32 ?_ | refine And.intro (by assumption) ?_))); (conv => whnf)
      rw [b2, show (48 : Int32) = nI 48 by decide +kernel, mn_nI (by omega) (by omega), eM]
      (repeat ((conv => whnf); (first | refine zo0 ?_ | refine zo1 ?_ | refine br_z ?_ | refine br_o ?_ | refine br_zn ?_ | refine br_on ?_ | refine nz2 ?_ | refine nz6 ?_ | refine nz32 ?_ | refine And.intro (by assumption) ?_))); (conv => whnf)
      refine loop M 0 D1 (by omega) f1 (by rw [gWr_0]; exact i1) (fun t ht => ?_)
      have yy := y1.1.1 t ht
      rcases (show c = 0 ∨ c = 1 by omega) with rfl | rfl
      · exact yy.1
      · exact yy.2.1
    · have kk := kb (fun q => ex q.2)
      (repeat ((conv => whnf); (first | refine zo0 ?_ | refine zo1 ?_ | refine br_z ?_ | refine br_o ?_ | refine br_zn ?_ | refine br_on ?_ | refine nz2 ?_ | refine nz6 ?_ | refine nz32 ?_ | refine And.intro (by assumption) ?_))); (conv => whnf)
      refine ⟨fun h1 => ?_, fun h1 => ?_⟩
      · (repeat ((conv => whnf); (first | refine zo0 ?_ | refine zo1 ?_ | refine br_z ?_ | refine br_o ?_ | refine br_zn ?_ | refine br_on ?_ | refine nz2 ?_ | refine nz6 ?_ | refine nz32 ?_ | refine And.intro (by assumption) ?_))); (conv => whnf)
        exact kk
      (repeat ((conv => whnf); (first | refine zo0 ?_ | refine zo1 ?_ | refine br_z ?_ | refine br_o ?_ | refine br_zn ?_ | refine br_on ?_ | refine nz2 ?_ | refine nz6 ?_ | refine nz32 ?_ | refine And.intro (by assumption) ?_))); (conv => whnf)
      refine ⟨fun h2 => ?_, fun h2 => ?_⟩
      · (repeat ((conv => whnf); (first | refine zo0 ?_ | refine zo1 ?_ | refine br_z ?_ | refine br_o ?_ | refine br_zn ?_ | refine br_on ?_ | refine nz2 ?_ | refine nz6 ?_ | refine nz32 ?_ | refine And.intro (by assumption) ?_))); (conv => whnf)
        exact kk
      · (repeat ((conv => whnf); (first | refine zo0 ?_ | refine zo1 ?_ | refine br_z ?_ | refine br_o ?_ | refine br_zn ?_ | refine br_on ?_ | refine nz2 ?_ | refine nz6 ?_ | refine nz32 ?_ | refine And.intro (by assumption) ?_))); (conv => whnf)
        exact kk
  · exact absurd h id
theorem clX_write (l : Launch) : ∀ (a : Nat) (ins : Instr) (b dd : Nat), csX_write[a]? = some (ins, b, dd) → am_Call l yX_write.cls 5 ins b dd (fnX_write a) := by
  intro a ins b dd h
  match a, h with
  | 0, h => cases h; exact am_callV (T := F_10) (N := 17) (okX_sheetOf l) wcX_sheetOf (am_m2 (i := 238) rfl rfl) wiX_sheetOf wsX_sheetOf inX rfl (by decide) (by decide +kernel) (by decide) (by decide)
  | 1, h => cases h; exact am_callV (T := F_10) (N := 17) (okX_found l) wcX_found (am_m3 (i := 2) rfl rfl) wiX_found wsX_found inX rfl (by decide) (by decide +kernel) (by decide) (by decide)
  | 2, h => cases h; exact am_callV (T := F_10) (N := 17) (okX_learnDay l) wcX_learnDay (am_m3 (i := 11) rfl rfl) wiX_learnDay wsX_learnDay inX rfl (by decide) (by decide +kernel) (by decide) (by decide)
  | 3, h => cases h; exact am_callMin (am_m3 (i := 158) rfl rfl) (wcJ_min) (wtJ_min) inJM (by decide)
  | 4, h => cases h; exact am_callV (T := F_5) (N := 4) (okG_keep l) wcG_keep (am_m4 (i := 29) rfl rfl) wiG_keep wsG_keep inG rfl (by decide) (by decide +kernel) (by decide) (by decide)
  | k + 5, h => simp [csX_write] at h
theorem okX_write (l : Launch) : am_Ok l yX_write prog_1_method_35_code 6 (some .int) 5 spX_write := am_ok_of (by decide +kernel) flX_ok kiX_ok klX_ok ckX_write (clX_write l) wpX_write
