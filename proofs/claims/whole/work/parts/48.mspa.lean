def fnM_might : Nat → am_Sp := fun a => match a with
  | 0 => spM_isTwo
  | 1 => spM_kindsBy
  | 2 => spM_roomsBy
  | _ => am_no
theorem mfM_might : ∀ a, am_mono (fnM_might a) := fun a => match a with
  | 0 => moM_isTwo
  | 1 => moM_kindsBy
  | 2 => moM_roomsBy
  | _ + 3 => am_no_mono
def spM_might : am_Sp := fun as D L K => match as with
  | [.ref 49, .int x] => ∃ v : vs_T, vok v ∧ im D v ∧ ∀ D', fq D D' → K (some (.int (qMight v x))) D' L
  | _ => False
theorem moM_might : am_mono spM_might := by
  intro as D L K K' hK h
  unfold spM_might at h ⊢
  split at h
  · obtain ⟨z0, z1, z2, hz⟩ := h
    exact ⟨z0, z1, z2, fun D' q => hK _ _ _ (hz D' q)⟩
  · exact h
theorem wpM_might : ∀ (as : List Value) (D : am_D) (L : am_L) (K : am_K), spM_might as D L K → am_fit 2 as = true ∧ am_Wp false 0 cdM_might fnM_might K 0 (am_lo 2 as) [] D L := by
  intro as D L K h
  unfold spM_might at h
  split at h
  · rename_i x
    obtain ⟨v, hv, hi, hK⟩ := h
    refine ⟨rfl, am_Wp_bl mfM_might [] 50 _ _ _ _ _ ?_⟩
    (repeat ((conv => whnf); (first | refine zo0 ?_ | refine zo1 ?_ | refine br_z ?_ | refine br_o ?_ | refine br_zn ?_ | refine br_on ?_ | refine nz2 ?_ | refine nz6 ?_ | refine nz32 ?_ | refine And.intro (by assumption) ?_))); (conv => whnf)
    refine ⟨fun hx => ?_, fun hx => ?_⟩
    · (repeat ((conv => whnf); (first | refine zo0 ?_ | refine zo1 ?_ | refine br_z ?_ | refine br_o ?_ | refine br_zn ?_ | refine br_on ?_ | refine nz2 ?_ | refine nz6 ?_ | refine nz32 ?_ | refine And.intro (by assumption) ?_))); (conv => whnf)
      refine ⟨fun h2 => ?_, fun h2 => ?_⟩
      · (repeat ((conv => whnf); (first | refine zo0 ?_ | refine zo1 ?_ | refine br_z ?_ | refine br_o ?_ | refine br_zn ?_ | refine br_on ?_ | refine nz2 ?_ | refine nz6 ?_ | refine nz32 ?_ | refine And.intro (by assumption) ?_))); (conv => whnf)
        refine ⟨v, hv, hi, fun D' f _ => ?_⟩
        have k := hK D' f
        unfold qMight at k
        rw [if_pos hx, if_neg h2] at k
        (repeat ((conv => whnf); (first | refine zo0 ?_ | refine zo1 ?_ | refine br_z ?_ | refine br_o ?_ | refine br_zn ?_ | refine br_on ?_ | refine nz2 ?_ | refine nz6 ?_ | refine nz32 ?_ | refine And.intro (by assumption) ?_))); (conv => whnf)
        exact k
      · (repeat ((conv => whnf); (first | refine zo0 ?_ | refine zo1 ?_ | refine br_z ?_ | refine br_o ?_ | refine br_zn ?_ | refine br_on ?_ | refine nz2 ?_ | refine nz6 ?_ | refine nz32 ?_ | refine And.intro (by assumption) ?_))); (conv => whnf)
        refine ⟨v, hv, hi, fun D' f => ?_⟩
        have k := hK D' f
        unfold qMight at k
        rw [if_pos hx, if_pos h2] at k
        (repeat ((conv => whnf); (first | refine zo0 ?_ | refine zo1 ?_ | refine br_z ?_ | refine br_o ?_ | refine br_zn ?_ | refine br_on ?_ | refine nz2 ?_ | refine nz6 ?_ | refine nz32 ?_ | refine And.intro (by assumption) ?_))); (conv => whnf)
        exact k
    · (repeat ((conv => whnf); (first | refine zo0 ?_ | refine zo1 ?_ | refine br_z ?_ | refine br_o ?_ | refine br_zn ?_ | refine br_on ?_ | refine nz2 ?_ | refine nz6 ?_ | refine nz32 ?_ | refine And.intro (by assumption) ?_))); (conv => whnf)
      have k := hK D fq_rf
      unfold qMight at k
      rw [if_neg hx] at k
      exact k
  · exact absurd h id
theorem clM_might (l : Launch) : ∀ (a : Nat) (ins : Instr) (b dd : Nat), csM_might[a]? = some (ins, b, dd) → am_Call l yM_might.cls 8 ins b dd (fnM_might a) := by
  intro a ins b dd h
  match a, h with
  | 0, h => cases h; exact am_callS (okM_isTwo l) wcM_isTwo (am_m5 (i := 55) rfl rfl) wtM_isTwo inM (by decide +kernel) (by decide) (by decide)
  | 1, h => cases h; exact am_callV (T := F_11) (N := 52) (okM_kindsBy l) wcM_kindsBy (am_m6 (i := 57) rfl rfl) wiM_kindsBy wsM_kindsBy inM rfl (by decide) (by decide +kernel) (by decide) (by decide)
  | 2, h => cases h; exact am_callV (T := F_11) (N := 52) (okM_roomsBy l) wcM_roomsBy (am_m6 (i := 61) rfl rfl) wiM_roomsBy wsM_roomsBy inM rfl (by decide) (by decide +kernel) (by decide) (by decide)
  | k + 3, h => simp [csM_might] at h
theorem okM_might (l : Launch) : am_Ok l yM_might prog_13_method_75_code 2 (some .int) 8 spM_might := am_ok_of (by decide +kernel) flM_ok kiM_ok klM_ok ckM_might (clM_might l) wpM_might
