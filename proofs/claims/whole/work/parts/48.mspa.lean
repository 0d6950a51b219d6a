def fnM_might : Nat → am_Sp := fun a => match a with
  | 0 => spM_isTwo
  | 1 => spM_kindsBy
  | 2 => spM_roomsBy
  | _ => am_no
theorem mfM_might : ∀ a, am_mono (fnM_might a) := fun a => match a with
  | 0 => moM_isTwo
  | 1 => moM_kindsBy
  | 2 => moM_roomsBy
  | _ + 3 => am_no_mono
def spM_might : am_Sp := fun as D L K => match as with
  | [.ref 49, .int x] => ∃ v : vs_T, vok v ∧ im D v ∧ ∀ D', fq D D' → K (some (.int (qMight v x))) D' L
  | _ => False
theorem moM_might : am_mono spM_might := by
  intro as D L K K' hK h
  unfold spM_might at h ⊢
  split at h
  · obtain ⟨z0, z1, z2, hz⟩ := h
    exact ⟨z0, z1, z2, fun D' q => hK _ _ _ (hz D' q)⟩
  · exact h
theorem wpM_might : ∀ (as : List Value) (D : am_D) (L : am_L) (K : am_K), spM_might as D L K → am_fit 2 as = true ∧ am_Wp false 0 cdM_might fnM_might K 0 (am_lo 2 as) [] D L := by
  intro as D L K h
  unfold spM_might at h
  split at h
  · rename_i x
    obtain ⟨v, hv, hi, hK⟩ := h
    refine ⟨rfl, am_Wp_bl mfM_might [] 50 _ _ _ _ _ ?_⟩
    (repeat ((conv => whnf); (first | refine zo0 ?_ | refine zo1 ?_ | refine br_z ?_ | refine br_o ?_ | refine br_zn ?_ | refine br_on ?_ | refine nz2 ?_ | refine nz6 ?_ | refine nz32 ?_ | refine And.intro (by assumption) ?_))); (conv => whnf)
    refine ⟨fun hx => ?_, fun hx => ?_⟩
    · (repeat ((conv => whnf); (first | refine zo0 ?_ | refine zo1 ?_ | refine br_z ?_ | refine br_o ?_ | refine br_zn ?_ | refine br_on ?_ | refine nz2 ?_ | refine nz6 ?_ | refine nz32 ?_ | refine And.intro (by assumption) ?_))); (conv => whnf)
      refine ⟨fun h2 => ?_, fun h2 => ?_⟩
      · (repeat ((conv => whnf); (first | refine zo0 ?_ | refine zo1 ?_ | refine br_z ?_ | refine br_o ?_ | refine br_zn ?_ | refine br_on ?_ | refine nz2 ?_ | refine nz6 ?_ | refine nz32 ?_ | refine And.intro (by assumption) ?_))); (conv => whnf)
        refine ⟨v, hv, hi, fun D' f _ => ?_⟩
        have k := hK D' f
        unfold qMight at k
        rw [if_pos hx, if_neg h2] at k
        (repeat ((conv => whnf); (first | refine zo0 ?_ | refine zo1 ?_ | refine br_z ?_ | refine br_o ?_ | refine br_zn ?_ | refine br_on ?_ | refine nz2 ?_ | refine nz6 ?_ | refine nz32 ?_ | refine And.intro (by assumption) ?_))); (conv => whnf)
        exact k
      · (repeat ((conv => whnf); (first | refine zo0 ?_ | refine zo1 ?_ | refine br_z ?_ | refine br_o ?_ | refine br_zn ?_ | refine br_on ?_ | refine nz2 ?_ | refine nz6 ?_ | refine nz32 ?_ | refine And.intro (by assumption) ?_))); (conv => whnf)
        refine ⟨v, hv, hi, fun D' f => ?_⟩
        have k := hK D' f
        unfold qMight at k
        rw [if_pos hx, if_pos h2] at k
        (repeat ((conv => whnf); (first | refine zo0 ?_ | refine zo1 ?_ | refine br_z ?_ | refine br_o ?_ | refine br_zn ?_ | refine br_on ?_ | refine nz2 ?_ | refine nz6 ?_ | refine nz32 ?_ | refine And.intro (by assumption) ?_))); (conv => whnf)
        exact k
    · (repeat ((conv => whnf); (first | refine zo0 ?_ | refine zo1 ?_ | refine br_z ?_ | refine br_o ?_ | refine br_zn ?_ | refine br_on ?_ | refine nz2 ?_ | refine nz6 ?_ | refine nz32 ?_ | refine And.intro (by assumption) ?_))); (conv => whnf)
      have k := hK D fq_rf
      unfold qMight at k
      rw [if_neg hx] at k
      exact k
  · exact absurd h id
theorem clM_might (l : Launch) : ∀ (a : Nat) (ins : Instr) (b dd : Nat), csM_might[a]? = some (ins, b, dd) → am_Call l yM_might.cls 8 ins b dd (fnM_might a) := by
  intro a ins b dd h
  match a, h with
  | 0, h => cases h; exact am_callS (okM_isTwo l) wcM_isTwo (am_m5 (i := 55) rfl rfl) wtM_isTwo inM (by decide +kernel) (by decide) (by decide)
  | 1, h => cases h; exact am_callV (T := F_11) (N := 52) (okM_kindsBy l) wcM_kindsBy (am_m6 (i := 57) rfl rfl) wiM_kindsBy wsM_kindsBy inM rfl (by decide) (by decide +kernel) (by decide) (by decide)
  | 2, h => cases h; exact am_callV (T := F_11) (N := 52) (okM_roomsBy l) wcM_roomsBy (am_m6 (i := 61) rfl rfl) wiM_roomsBy wsM_roomsBy inM rfl (by decide) (by decide +kernel) (by decide) (by decide)
  | k + 3, h => simp [csM_might] at h
theorem okM_might (l : Launch) : am_Ok l yM_might prog_13_method_75_code 2 (some .int) 8 spM_might := am_ok_of (by decide +kernel) flM_ok kiM_ok klM_ok ckM_might (clM_might l) wpM_might
def fnM_ofRow : Nat → am_Sp := fun _ => am_no
theorem mfM_ofRow : ∀ a, am_mono (fnM_ofRow a) := fun _ => am_no_mono
theorem spI_some {n a b i : Nat} : spI (some (n, a, b)) i = if i < n then (if i = 0 then nI a else nI b) else -1 := rfl
theorem sp_bd {v : vs_T} {n a b : Nat} (h : aSpare v = some (n, a, b)) : n ≤ 2 := by
  unfold aSpare at h
  split at h
  · cases h; omega
  · split at h
    · cases h; omega
    · split at h
      · cases h; omega
      · cases h
def spM_ofRow : am_Sp := fun as D L K => match as with
  | [.ref 49, .int y, .int x] => ∃ v : vs_T, y = spN (aSpare v) ∧ (x = -1 ∨ x = 0 ∨ x = 1) ∧ (∀ n a b, aSpare v = some (n, a, b) → (1 ≤ n → D 70 0 = nI a) ∧ (2 ≤ n → D 70 1 = nI b)) ∧ K (some (.int (if x = -1 then spN (aSpare v) else spI (aSpare v) (cN x)))) D L
  | _ => False
theorem moM_ofRow : am_mono spM_ofRow := by
  intro as D L K K' hK h
  unfold spM_ofRow at h ⊢
  split at h
  · obtain ⟨z0, z1, z2, z3, hz⟩ := h
    exact ⟨z0, z1, z2, z3, hK _ _ _ hz⟩
  · exact h
theorem wpM_ofRow : ∀ (as : List Value) (D : am_D) (L : am_L) (K : am_K), spM_ofRow as D L K → am_fit 3 as = true ∧ am_Wp false 0 cdM_ofRow fnM_ofRow K 0 (am_lo 3 as) [] D L := by
  intro as D L K h
  unfold spM_ofRow at h
  split at h
  · rename_i y x
    obtain ⟨v, ey, ex, hr, hK⟩ := h
    subst ey
    have i0 : vp_in (0 : Int32) 2 := by rw [← nI_0]; exact vp_in_nI (by decide) (by decide)
    have i1 : vp_in (1 : Int32) 2 := by rw [← nc1]; exact vp_in_nI (by decide) (by decide)
    have cl1 : (1 : Int32).toNatClampNeg = 1 := by decide +kernel
    refine ⟨rfl, am_Wp_bl mfM_ofRow [] 50 _ _ _ _ _ ?_⟩
    (repeat ((conv => whnf); (first | refine zo0 ?_ | refine zo1 ?_ | refine br_z ?_ | refine br_o ?_ | refine br_zn ?_ | refine br_on ?_ | refine nz2 ?_ | refine nz6 ?_ | refine nz32 ?_ | refine And.intro (by assumption) ?_))); (conv => whnf)
    refine ⟨fun h1 => ?_, fun h1 => ?_⟩
    · rw [if_neg h1] at hK
      (repeat ((conv => whnf); (first | refine zo0 ?_ | refine zo1 ?_ | refine br_z ?_ | refine br_o ?_ | refine br_zn ?_ | refine br_on ?_ | refine nz2 ?_ | refine nz6 ?_ | refine nz32 ?_ | refine And.intro (by assumption) ?_))); (conv => whnf)
      rcases ex with rfl | rfl | rfl
      · exact absurd rfl h1
      · cases hs : aSpare v with
        | none =>
          rw [hs] at hK
          have q : spN none ≤ 0 := by decide
          refine ⟨fun _ => ?_, fun h2 => absurd q h2⟩
          (repeat ((conv => whnf); (first | refine zo0 ?_ | refine zo1 ?_ | refine br_z ?_ | refine br_o ?_ | refine br_zn ?_ | refine br_on ?_ | refine nz2 ?_ | refine nz6 ?_ | refine nz32 ?_ | refine And.intro (by assumption) ?_))); (conv => whnf)
          exact hK
        | some o =>
          obtain ⟨n, a, b⟩ := o
          have bd := sp_bd hs
          have e : spN (some (n, a, b)) = nI n := rfl
          rw [hs] at hK
          rw [e, show (0 : Int32) = nI 0 by decide +kernel, nI_leI (by omega) (by omega)]
          have hr' := hr n a b hs
          have c : cN (0 : Int32) = 0 := by decide +kernel
          rw [c] at hK
          refine ⟨fun h2 => ?_, fun h2 => ?_⟩
          · (repeat ((conv => whnf); (first | refine zo0 ?_ | refine zo1 ?_ | refine br_z ?_ | refine br_o ?_ | refine br_zn ?_ | refine br_on ?_ | refine nz2 ?_ | refine nz6 ?_ | refine nz32 ?_ | refine And.intro (by assumption) ?_))); (conv => whnf)
            rw [spI_some] at hK
            rw [if_neg (by omega)] at hK
            exact hK
          · rw [spI_some] at hK
            rw [if_pos (by omega)] at hK
            have k0 : 0 = 0 → D 70 0 = nI a := fun _ => hr'.1 (by omega)
            have k1 : 0 = 1 → D 70 1 = nI b := fun _ => hr'.2 (by omega)
            (repeat ((conv => whnf); (first | refine zo0 ?_ | refine zo1 ?_ | refine br_z ?_ | refine br_o ?_ | refine br_zn ?_ | refine br_on ?_ | refine nz2 ?_ | refine nz6 ?_ | refine nz32 ?_ | refine And.intro (by assumption) ?_))); (conv => whnf)
            first
            | (rw [nI_clamp (by decide), k0 rfl]; exact hK)
            | (rw [nI_clamp (by decide), k1 rfl]; exact hK)
      · cases hs : aSpare v with
        | none =>
          rw [hs] at hK
          have q : spN none ≤ 1 := by decide
          refine ⟨fun _ => ?_, fun h2 => absurd q h2⟩
          (repeat ((conv => whnf); (first | refine zo0 ?_ | refine zo1 ?_ | refine br_z ?_ | refine br_o ?_ | refine br_zn ?_ | refine br_on ?_ | refine nz2 ?_ | refine nz6 ?_ | refine nz32 ?_ | refine And.intro (by assumption) ?_))); (conv => whnf)
          exact hK
        | some o =>
          obtain ⟨n, a, b⟩ := o
          have bd := sp_bd hs
          have e : spN (some (n, a, b)) = nI n := rfl
          rw [hs] at hK
          rw [e, show (1 : Int32) = nI 1 by decide +kernel, nI_leI (by omega) (by omega)]
          have hr' := hr n a b hs
          have c : cN (1 : Int32) = 1 := by decide +kernel
          rw [c] at hK
          refine ⟨fun h2 => ?_, fun h2 => ?_⟩
          · (repeat ((conv => whnf); (first | refine zo0 ?_ | refine zo1 ?_ | refine br_z ?_ | refine br_o ?_ | refine br_zn ?_ | refine br_on ?_ | refine nz2 ?_ | refine nz6 ?_ | refine nz32 ?_ | refine And.intro (by assumption) ?_))); (conv => whnf)
            rw [spI_some] at hK
            rw [if_neg (by omega)] at hK
            exact hK
          · rw [spI_some] at hK
            rw [if_pos (by omega)] at hK
            have k0 : 1 = 0 → D 70 0 = nI a := fun _ => hr'.1 (by omega)
            have k1 : 1 = 1 → D 70 1 = nI b := fun _ => hr'.2 (by omega)
            (repeat ((conv => whnf); (first | refine zo0 ?_ | refine zo1 ?_ | refine br_z ?_ | refine br_o ?_ | refine br_zn ?_ | refine br_on ?_ | refine nz2 ?_ | refine nz6 ?_ | refine nz32 ?_ | refine And.intro (by assumption) ?_))); (conv => whnf)
            first
            | (rw [nI_clamp (by decide), k0 rfl]; exact hK)
            | (rw [nI_clamp (by decide), k1 rfl]; exact hK)
    · (repeat ((conv => whnf); (first | refine zo0 ?_ | refine zo1 ?_ | refine br_z ?_ | refine br_o ?_ | refine br_zn ?_ | refine br_on ?_ | refine nz2 ?_ | refine nz6 ?_ | refine nz32 ?_ | refine And.intro (by assumption) ?_))); (conv => whnf)
      rw [if_pos h1] at hK
      exact hK
  · exact absurd h id
theorem clM_ofRow (l : Launch) : ∀ (a : Nat) (ins : Instr) (b dd : Nat), csM_ofRow[a]? = some (ins, b, dd) → am_Call l yM_ofRow.cls 0 ins b dd (fnM_ofRow a) := by
  intro a ins b dd h
  match a, h with
  | k + 0, h => simp [csM_ofRow] at h
theorem okM_ofRow (l : Launch) : am_Ok l yM_ofRow prog_13_method_64_code 3 (some .int) 0 spM_ofRow := am_ok_of (by decide +kernel) flM_ok kiM_ok klM_ok ckM_ofRow (clM_ofRow l) wpM_ofRow
def fnM_spare : Nat → am_Sp := fun a => match a with
  | 0 => spM_in
  | 1 => spM_spareBy
  | 2 => spM_ofRow
  | _ => am_no
theorem mfM_spare : ∀ a, am_mono (fnM_spare a) := fun a => match a with
  | 0 => moM_in
  | 1 => moM_spareBy
  | 2 => moM_ofRow
  | _ + 3 => am_no_mono
def spM_spare : am_Sp := fun as D L K => match as with
  | [.ref 49, .int x] => ∃ v : vs_T, vok v ∧ im D v ∧ ∀ D', fq D D' → K (some (.int (qSpare v x))) D' L
  | _ => False
theorem moM_spare : am_mono spM_spare := by
  intro as D L K K' hK h
  unfold spM_spare at h ⊢
  split at h
  · obtain ⟨z0, z1, z2, hz⟩ := h
    exact ⟨z0, z1, z2, fun D' q => hK _ _ _ (hz D' q)⟩
  · exact h
theorem wpM_spare : ∀ (as : List Value) (D : am_D) (L : am_L) (K : am_K), spM_spare as D L K → am_fit 2 as = true ∧ am_Wp false 0 cdM_spare fnM_spare K 0 (am_lo 2 as) [] D L := by
  intro as D L K h
  unfold spM_spare at h
  split at h
  · rename_i x
    obtain ⟨v, hv, hi, hK⟩ := h
    refine ⟨rfl, am_Wp_bl mfM_spare [] 50 _ _ _ _ _ ?_⟩
    (repeat ((conv => whnf); (first | refine zo0 ?_ | refine zo1 ?_ | refine br_z ?_ | refine br_o ?_ | refine br_zn ?_ | refine br_on ?_ | refine nz2 ?_ | refine nz6 ?_ | refine nz32 ?_ | refine And.intro (by assumption) ?_))); (conv => whnf)
    refine ⟨fun hx => ?_, fun hx => ?_⟩
    · have ex : x = -1 ∨ x = 0 ∨ x = 1 := by
        by_cases e : x = -1
        · exact Or.inl e
        · have h0 : 0 ≤ x := by
            rw [Int32.le_iff_toInt_le] at hx ⊢
            have q := hx.1
            have e' : x.toInt ≠ (-1 : Int32).toInt := fun q => e (Int32.toInt_inj.mp q)
            have e1 : (-1 : Int32).toInt = -1 := by decide
            have e0 : (0 : Int32).toInt = 0 := by decide
            omega
          obtain ⟨j, hj, ej⟩ := rg_nI (n := 1) (by decide) ⟨h0, hx.2⟩
          rcases (show j = 0 ∨ j = 1 by omega) with rfl | rfl
          · exact Or.inr (Or.inl (ej.trans (by decide +kernel)))
          · exact Or.inr (Or.inr (ej.trans (by decide +kernel)))
      (repeat ((conv => whnf); (first | refine zo0 ?_ | refine zo1 ?_ | refine br_z ?_ | refine br_o ?_ | refine br_zn ?_ | refine br_on ?_ | refine nz2 ?_ | refine nz6 ?_ | refine nz32 ?_ | refine And.intro (by assumption) ?_))); (conv => whnf)
      refine ⟨v, hv, hi, fun D' f hr => ?_⟩
      (repeat ((conv => whnf); (first | refine zo0 ?_ | refine zo1 ?_ | refine br_z ?_ | refine br_o ?_ | refine br_zn ?_ | refine br_on ?_ | refine nz2 ?_ | refine nz6 ?_ | refine nz32 ?_ | refine And.intro (by assumption) ?_))); (conv => whnf)
      refine ⟨v, rfl, ex, hr, ?_⟩
      have k := hK D' f
      unfold qSpare at k
      rw [if_pos hx] at k
      (repeat ((conv => whnf); (first | refine zo0 ?_ | refine zo1 ?_ | refine br_z ?_ | refine br_o ?_ | refine br_zn ?_ | refine br_on ?_ | refine nz2 ?_ | refine nz6 ?_ | refine nz32 ?_ | refine And.intro (by assumption) ?_))); (conv => whnf)
      exact k
    · (repeat ((conv => whnf); (first | refine zo0 ?_ | refine zo1 ?_ | refine br_z ?_ | refine br_o ?_ | refine br_zn ?_ | refine br_on ?_ | refine nz2 ?_ | refine nz6 ?_ | refine nz32 ?_ | refine And.intro (by assumption) ?_))); (conv => whnf)
      have k := hK D fq_rf
      unfold qSpare at k
      rw [if_neg hx] at k
      exact k
  · exact absurd h id
theorem clM_spare (l : Launch) : ∀ (a : Nat) (ins : Instr) (b dd : Nat), csM_spare[a]? = some (ins, b, dd) → am_Call l yM_spare.cls 8 ins b dd (fnM_spare a) := by
  intro a ins b dd h
  match a, h with
  | 0, h => cases h; exact am_callS (okM_in l) wcM_in (am_m5 (i := 29) rfl rfl) wtM_in inM (by decide +kernel) (by decide) (by decide)
  | 1, h => cases h; exact am_callV (T := F_11) (N := 52) (okM_spareBy l) wcM_spareBy (am_m6 (i := 13) rfl rfl) wiM_spareBy wsM_spareBy inM rfl (by decide) (by decide +kernel) (by decide) (by decide)
  | 2, h => cases h; exact am_callV (T := F_11) (N := 52) (okM_ofRow l) wcM_ofRow (am_m6 (i := 21) rfl rfl) wiM_ofRow wsM_ofRow inM rfl (by decide) (by decide +kernel) (by decide) (by decide)
  | k + 3, h => simp [csM_spare] at h
theorem okM_spare (l : Launch) : am_Ok l yM_spare prog_13_method_65_code 2 (some .int) 8 spM_spare := am_ok_of (by decide +kernel) flM_ok kiM_ok klM_ok ckM_spare (clM_spare l) wpM_spare
