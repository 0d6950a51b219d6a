def fnM_count : Nat → am_Sp := fun a => match a with
  | 0 => spM_roundsOf
  | 1 => spM_shortOf
  | _ => am_no
theorem mfM_count : ∀ a, am_mono (fnM_count a) := fun a => match a with
  | 0 => moM_roundsOf
  | 1 => moM_shortOf
  | _ + 2 => am_no_mono
def spM_count : am_Sp := fun as D L K => match as with
  | [.ref 49, .int x] => ∃ v : vs_T, vok v ∧ im D v ∧ ∀ D', fq D D' → K (some (.int (qCount v x))) D' L
  | _ => False
theorem moM_count : am_mono spM_count := by
  intro as D L K K' hK h
  unfold spM_count at h ⊢
  split at h
  · obtain ⟨z0, z1, z2, hz⟩ := h
    exact ⟨z0, z1, z2, fun D' q => hK _ _ _ (hz D' q)⟩
  · exact h
theorem wpM_count : ∀ (as : List Value) (D : am_D) (L : am_L) (K : am_K), spM_count as D L K → am_fit 2 as = true ∧ am_Wp false 0 cdM_count fnM_count K 0 (am_lo 2 as) [] D L := by
  intro as D L K h
  unfold spM_count at h
  split at h
  · rename_i x
    obtain ⟨v, hv, hi, hK⟩ := h
    refine ⟨rfl, am_Wp_bl mfM_count [] 90 _ _ _ _ _ ?_⟩
    (repeat ((conv => whnf); (first | refine zo0 ?_ | refine zo1 ?_ | refine br_z ?_ | refine br_o ?_ | refine br_zn ?_ | refine br_on ?_ | refine nz2 ?_ | refine nz6 ?_ | refine nz32 ?_ | refine And.intro (by assumption) ?_))); (conv => whnf)
    have i0 : vp_in (0 : Int32) 3 := by rw [← nI_0]; exact vp_in_nI (by decide) (by decide)
    have i1 : vp_in (1 : Int32) 3 := by rw [← nc1]; exact vp_in_nI (by decide) (by decide)
    have i2 : vp_in (2 : Int32) 3 := by rw [← nc2]; exact vp_in_nI (by decide) (by decide)
    have cl1 : (1 : Int32).toNatClampNeg = 1 := by decide +kernel
    have cl2 : (2 : Int32).toNatClampNeg = 2 := by decide +kernel
    refine ⟨fun i o h1 h2 => ?_, fun h1 => ?_⟩
    · match i, h1, h2 with
      | 0, h1, h2 =>
        cases h1
        have ex : x = 0 := Int32.toInt_inj.mp (h2.trans (by decide))
        subst ex
        (repeat ((conv => whnf); (first | refine zo0 ?_ | refine zo1 ?_ | refine br_z ?_ | refine br_o ?_ | refine br_zn ?_ | refine br_on ?_ | refine nz2 ?_ | refine nz6 ?_ | refine nz32 ?_ | refine And.intro (by assumption) ?_))); (conv => whnf)
        refine ⟨v, hv, hi, fun D1 f1 => ?_⟩
        have k := hK D1 f1
        (repeat ((conv => whnf); (first | refine zo0 ?_ | refine zo1 ?_ | refine br_z ?_ | refine br_o ?_ | refine br_zn ?_ | refine br_on ?_ | refine nz2 ?_ | refine nz6 ?_ | refine nz32 ?_ | refine And.intro (by assumption) ?_))); (conv => whnf)
        exact k
      | 1, h1, h2 =>
        cases h1
        have ex : x = 1 := Int32.toInt_inj.mp (h2.trans (by decide))
        subst ex
        have k := hK D fq_rf
        have k' : K (some (.int (v 0 0 + v 0 1 + v 0 2))) D L := k
        rw [← hi.1 0 (by decide), ← hi.1 1 (by decide), ← hi.1 2 (by decide)] at k'
        (repeat ((conv => whnf); (first | refine zo0 ?_ | refine zo1 ?_ | refine br_z ?_ | refine br_o ?_ | refine br_zn ?_ | refine br_on ?_ | refine nz2 ?_ | refine nz6 ?_ | refine nz32 ?_ | refine And.intro (by assumption) ?_))); (conv => whnf)
        rw [cl0, cl1, cl2]
        exact k'
      | 2, h1, h2 =>
        cases h1
        have ex : x = 2 := Int32.toInt_inj.mp (h2.trans (by decide))
        subst ex
        have k' : K (some (.int (v 0 6))) D L := hK D fq_rf
        rw [← hi.2.2.2.1] at k'
        (repeat ((conv => whnf); (first | refine zo0 ?_ | refine zo1 ?_ | refine br_z ?_ | refine br_o ?_ | refine br_zn ?_ | refine br_on ?_ | refine nz2 ?_ | refine nz6 ?_ | refine nz32 ?_ | refine And.intro (by assumption) ?_))); (conv => whnf)
        exact k'
      | 3, h1, h2 =>
        cases h1
        have ex : x = 3 := Int32.toInt_inj.mp (h2.trans (by decide))
        subst ex
        (repeat ((conv => whnf); (first | refine zo0 ?_ | refine zo1 ?_ | refine br_z ?_ | refine br_o ?_ | refine br_zn ?_ | refine br_on ?_ | refine nz2 ?_ | refine nz6 ?_ | refine nz32 ?_ | refine And.intro (by assumption) ?_))); (conv => whnf)
        refine ⟨v, hv, hi, fun D1 f1 => ?_⟩
        have k := hK D1 f1
        (repeat ((conv => whnf); (first | refine zo0 ?_ | refine zo1 ?_ | refine br_z ?_ | refine br_o ?_ | refine br_zn ?_ | refine br_on ?_ | refine nz2 ?_ | refine nz6 ?_ | refine nz32 ?_ | refine And.intro (by assumption) ?_))); (conv => whnf)
        exact k
      | 4, h1, h2 =>
        cases h1
        have ex : x = 4 := Int32.toInt_inj.mp (h2.trans (by decide))
        subst ex
        have k' : K (some (.int (v 0 3))) D L := hK D fq_rf
        rw [← hi.2.2.1 0 (by decide)] at k'
        have i3 : vp_in ((4 : Int32) - 4) 3 := by rw [show (4 : Int32) - 4 = nI 0 by decide +kernel]; exact vp_in_nI (by decide) (by decide)
        (repeat ((conv => whnf); (first | refine zo0 ?_ | refine zo1 ?_ | refine br_z ?_ | refine br_o ?_ | refine br_zn ?_ | refine br_on ?_ | refine nz2 ?_ | refine nz6 ?_ | refine nz32 ?_ | refine And.intro (by assumption) ?_))); (conv => whnf)
        rw [show ((4 : Int32) - 4).toNatClampNeg = 0 by decide +kernel]
        exact k'
      | 5, h1, h2 =>
        cases h1
        have ex : x = 5 := Int32.toInt_inj.mp (h2.trans (by decide))
        subst ex
        have k' : K (some (.int (v 0 4))) D L := hK D fq_rf
        rw [← hi.2.2.1 1 (by decide)] at k'
        have i3 : vp_in ((5 : Int32) - 4) 3 := by rw [show (5 : Int32) - 4 = nI 1 by decide +kernel]; exact vp_in_nI (by decide) (by decide)
        (repeat ((conv => whnf); (first | refine zo0 ?_ | refine zo1 ?_ | refine br_z ?_ | refine br_o ?_ | refine br_zn ?_ | refine br_on ?_ | refine nz2 ?_ | refine nz6 ?_ | refine nz32 ?_ | refine And.intro (by assumption) ?_))); (conv => whnf)
        rw [show ((5 : Int32) - 4).toNatClampNeg = 1 by decide +kernel]
        exact k'
      | 6, h1, h2 =>
        cases h1
        have ex : x = 6 := Int32.toInt_inj.mp (h2.trans (by decide))
        subst ex
        have k' : K (some (.int (v 0 5))) D L := hK D fq_rf
        rw [← hi.2.2.1 2 (by decide)] at k'
        have i3 : vp_in ((6 : Int32) - 4) 3 := by rw [show (6 : Int32) - 4 = nI 2 by decide +kernel]; exact vp_in_nI (by decide) (by decide)
        (repeat ((conv => whnf); (first | refine zo0 ?_ | refine zo1 ?_ | refine br_z ?_ | refine br_o ?_ | refine br_zn ?_ | refine br_on ?_ | refine nz2 ?_ | refine nz6 ?_ | refine nz32 ?_ | refine And.intro (by assumption) ?_))); (conv => whnf)
        rw [show ((6 : Int32) - 4).toNatClampNeg = 2 by decide +kernel]
        exact k'
      | 7, h1, h2 =>
        cases h1
        have ex : x = 7 := Int32.toInt_inj.mp (h2.trans (by decide))
        subst ex
        have k' : K (some (.int (v 0 7))) D L := hK D fq_rf
        rw [← hi.2.2.2.2.2.1] at k'
        (repeat ((conv => whnf); (first | refine zo0 ?_ | refine zo1 ?_ | refine br_z ?_ | refine br_o ?_ | refine br_zn ?_ | refine br_on ?_ | refine nz2 ?_ | refine nz6 ?_ | refine nz32 ?_ | refine And.intro (by assumption) ?_))); (conv => whnf)
        exact k'
      | 8, h1, h2 =>
        cases h1
        have ex : x = 8 := Int32.toInt_inj.mp (h2.trans (by decide))
        subst ex
        have k' : K (some (.int (v 0 8))) D L := hK D fq_rf
        rw [← hi.2.2.2.2.2.2.2.1] at k'
        (repeat ((conv => whnf); (first | refine zo0 ?_ | refine zo1 ?_ | refine br_z ?_ | refine br_o ?_ | refine br_zn ?_ | refine br_on ?_ | refine nz2 ?_ | refine nz6 ?_ | refine nz32 ?_ | refine And.intro (by assumption) ?_))); (conv => whnf)
        exact k'
      | n + 9, h1, h2 => cases h1
    · (repeat ((conv => whnf); (first | refine zo0 ?_ | refine zo1 ?_ | refine br_z ?_ | refine br_o ?_ | refine br_zn ?_ | refine br_on ?_ | refine nz2 ?_ | refine nz6 ?_ | refine nz32 ?_ | refine And.intro (by assumption) ?_))); (conv => whnf)
      have k := hK D fq_rf
      unfold qCount at k
      have ne : ∀ (c : Int32), 0 ≤ c.toInt → c.toInt ≤ 8 → ¬ x = c := fun c q1 q2 e => by rw [e] at h1; omega
      rw [if_neg (ne 0 (by decide) (by decide)), if_neg (ne 1 (by decide) (by decide)), if_neg (ne 2 (by decide) (by decide)), if_neg (ne 3 (by decide) (by decide)), if_neg (ne 4 (by decide) (by decide)), if_neg (ne 5 (by decide) (by decide)), if_neg (ne 6 (by decide) (by decide)), if_neg (ne 7 (by decide) (by decide)), if_neg (ne 8 (by decide) (by decide))] at k
      exact k
  · exact absurd h id
theorem clM_count (l : Launch) : ∀ (a : Nat) (ins : Instr) (b dd : Nat), csM_count[a]? = some (ins, b, dd) → am_Call l yM_count.cls 8 ins b dd (fnM_count a) := by
  intro a ins b dd h
  match a, h with
  | 0, h => cases h; exact am_callV (T := F_11) (N := 52) (okM_roundsOf l) wcM_roundsOf (am_m6 (i := 134) rfl rfl) wiM_roundsOf wsM_roundsOf inM rfl (by decide) (by decide +kernel) (by decide) (by decide)
  | 1, h => cases h; exact am_callV (T := F_11) (N := 52) (okM_shortOf l) wcM_shortOf (am_m6 (i := 138) rfl rfl) wiM_shortOf wsM_shortOf inM rfl (by decide) (by decide +kernel) (by decide) (by decide)
  | k + 2, h => simp [csM_count] at h
theorem okM_count (l : Launch) : am_Ok l yM_count prog_13_method_94_code 2 (some .int) 8 spM_count := am_ok_of (by decide +kernel) flM_ok kiM_ok klM_ok ckM_count (clM_count l) wpM_count
