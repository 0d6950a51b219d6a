def fnM_set : Nat → am_Sp := fun a => match a with
  | 0 => spM_isThree
  | 1 => spM_in
  | _ => am_no
theorem mfM_set : ∀ a, am_mono (fnM_set a) := fun a => match a with
  | 0 => moM_isThree
  | 1 => moM_in
  | _ + 2 => am_no_mono
def spM_set : am_Sp := fun as D L K => match as with
  | [.ref 49, .int x, .int y] => ∃ v : vs_T, vok v ∧ im D v ∧ ∀ D', fo D D' → im D' (gSet v x y) → K (some (.int (qSet v x y))) D' L
  | _ => False
theorem moM_set : am_mono spM_set := by
  intro as D L K K' hK h
  unfold spM_set at h ⊢
  split at h
  · obtain ⟨z0, z1, z2, hz⟩ := h
    exact ⟨z0, z1, z2, fun D' q1 q2 => hK _ _ _ (hz D' q1 q2)⟩
  · exact h
theorem wpM_set : ∀ (as : List Value) (D : am_D) (L : am_L) (K : am_K), spM_set as D L K → am_fit 4 as = true ∧ am_Wp false 0 cdM_set fnM_set K 0 (am_lo 4 as) [] D L := by
  intro as D L K h
  unfold spM_set at h
  split at h
  · rename_i x y
    obtain ⟨v, hv, hi, hK⟩ := h
    refine ⟨rfl, am_Wp_bl mfM_set [] 120 _ _ _ _ _ ?_⟩
    (repeat ((conv => whnf); (first | refine zo0 ?_ | refine zo1 ?_ | refine br_z ?_ | refine br_o ?_ | refine br_zn ?_ | refine br_on ?_ | refine nz2 ?_ | refine nz6 ?_ | refine nz32 ?_ | refine And.intro (by assumption) ?_))); (conv => whnf)
    refine ⟨fun hx => ?_, fun hx => ?_⟩
    · obtain ⟨a, ha, ea⟩ := rg_nI (n := 2) (by decide) hx
      rcases (show a = 0 ∨ a = 1 ∨ a = 2 by omega) with rfl | rfl | rfl
      · have ex : x = 0 := ea.trans (by decide +kernel)
        subst ex
        have i3 : vp_in (0 : Int32) 3 := by rw [show (0 : Int32) = nI 0 by decide +kernel]; exact vp_in_nI (by decide) (by decide)
        have cl : (0 : Int32).toNatClampNeg = 0 := by decide +kernel
        have k1 : (0 ≤ y ∧ y ≤ 2) → K (some (.int (D 55 0))) (am_up D 55 0 y) L := fun hy => by
          have k := hK (am_up D 55 0 y) (fo_up (by decide) (by decide) fo_rf)
          unfold gSet qSet at k
          rw [if_pos rfl, if_pos rfl, if_pos hy, if_pos hy] at k
          rw [hi.2.2.1 0 (by decide)]
          exact k (im_sett (j := 0) hi (by decide))
        have k2 : ¬ (0 ≤ y ∧ y ≤ 2) → K (some (.int (-2))) D L := fun hy => by
          have k := hK D fo_rf
          unfold gSet qSet at k
          rw [if_pos rfl, if_pos rfl, if_neg hy, if_neg hy] at k
          exact k hi
        (repeat ((conv => whnf); (first | refine zo0 ?_ | refine zo1 ?_ | refine br_z ?_ | refine br_o ?_ | refine br_zn ?_ | refine br_on ?_ | refine nz2 ?_ | refine nz6 ?_ | refine nz32 ?_ | refine And.intro (by assumption) ?_))); (conv => whnf)
        refine ⟨fun hy => ?_, fun hy => ?_⟩
        · have kk := k1 hy
          (repeat ((conv => whnf); (first | refine zo0 ?_ | refine zo1 ?_ | refine br_z ?_ | refine br_o ?_ | refine br_zn ?_ | refine br_on ?_ | refine nz2 ?_ | refine nz6 ?_ | refine nz32 ?_ | refine And.intro (by assumption) ?_))); (conv => whnf)
          refine ⟨fun _ => ?_, fun q => absurd q (by decide)⟩
          (repeat ((conv => whnf); (first | refine zo0 ?_ | refine zo1 ?_ | refine br_z ?_ | refine br_o ?_ | refine br_zn ?_ | refine br_on ?_ | refine nz2 ?_ | refine nz6 ?_ | refine nz32 ?_ | refine And.intro (by assumption) ?_))); (conv => whnf)
          refine ⟨fun _ => ?_, fun q => absurd q (by decide)⟩
          (repeat ((conv => whnf); (first | refine zo0 ?_ | refine zo1 ?_ | refine br_z ?_ | refine br_o ?_ | refine br_zn ?_ | refine br_on ?_ | refine nz2 ?_ | refine nz6 ?_ | refine nz32 ?_ | refine And.intro (by assumption) ?_))); (conv => whnf)
          rw [cl]
          exact kk
        · (repeat ((conv => whnf); (first | refine zo0 ?_ | refine zo1 ?_ | refine br_z ?_ | refine br_o ?_ | refine br_zn ?_ | refine br_on ?_ | refine nz2 ?_ | refine nz6 ?_ | refine nz32 ?_ | refine And.intro (by assumption) ?_))); (conv => whnf)
          exact k2 hy
      · have ex : x = 1 := ea.trans (by decide +kernel)
        subst ex
        have i3 : vp_in (1 : Int32) 3 := by rw [show (1 : Int32) = nI 1 by decide +kernel]; exact vp_in_nI (by decide) (by decide)
        have cl : (1 : Int32).toNatClampNeg = 1 := by decide +kernel
        have k1 : (1 ≤ y ∧ y ≤ 8) → K (some (.int (D 55 1))) (am_up D 55 1 y) L := fun hy => by
          have k := hK (am_up D 55 1 y) (fo_up (by decide) (by decide) fo_rf)
          unfold gSet qSet at k
          rw [if_neg (show ¬ (1 : Int32) = 0 by decide), if_neg (show ¬ (1 : Int32) = 0 by decide), if_pos rfl, if_pos rfl, if_pos hy, if_pos hy] at k
          rw [hi.2.2.1 1 (by decide)]
          exact k (im_sett (j := 1) hi (by decide))
        have k2 : ¬ (1 ≤ y ∧ y ≤ 8) → K (some (.int (-2))) D L := fun hy => by
          have k := hK D fo_rf
          unfold gSet qSet at k
          rw [if_neg (show ¬ (1 : Int32) = 0 by decide), if_neg (show ¬ (1 : Int32) = 0 by decide), if_pos rfl, if_pos rfl, if_neg hy, if_neg hy] at k
          exact k hi
        (repeat ((conv => whnf); (first | refine zo0 ?_ | refine zo1 ?_ | refine br_z ?_ | refine br_o ?_ | refine br_zn ?_ | refine br_on ?_ | refine nz2 ?_ | refine nz6 ?_ | refine nz32 ?_ | refine And.intro (by assumption) ?_))); (conv => whnf)
        refine ⟨fun q => absurd rfl q, fun _ => ?_⟩
        (repeat ((conv => whnf); (first | refine zo0 ?_ | refine zo1 ?_ | refine br_z ?_ | refine br_o ?_ | refine br_zn ?_ | refine br_on ?_ | refine nz2 ?_ | refine nz6 ?_ | refine nz32 ?_ | refine And.intro (by assumption) ?_))); (conv => whnf)
        refine ⟨fun hy => ?_, fun hy => ?_⟩
        · have kk := k1 hy
          (repeat ((conv => whnf); (first | refine zo0 ?_ | refine zo1 ?_ | refine br_z ?_ | refine br_o ?_ | refine br_zn ?_ | refine br_on ?_ | refine nz2 ?_ | refine nz6 ?_ | refine nz32 ?_ | refine And.intro (by assumption) ?_))); (conv => whnf)
          refine ⟨fun _ => ?_, fun q => absurd q (by decide)⟩
          (repeat ((conv => whnf); (first | refine zo0 ?_ | refine zo1 ?_ | refine br_z ?_ | refine br_o ?_ | refine br_zn ?_ | refine br_on ?_ | refine nz2 ?_ | refine nz6 ?_ | refine nz32 ?_ | refine And.intro (by assumption) ?_))); (conv => whnf)
          rw [cl]
          exact kk
        · (repeat ((conv => whnf); (first | refine zo0 ?_ | refine zo1 ?_ | refine br_z ?_ | refine br_o ?_ | refine br_zn ?_ | refine br_on ?_ | refine nz2 ?_ | refine nz6 ?_ | refine nz32 ?_ | refine And.intro (by assumption) ?_))); (conv => whnf)
          exact k2 hy
      · have ex : x = 2 := ea.trans (by decide +kernel)
        subst ex
        have i3 : vp_in (2 : Int32) 3 := by rw [show (2 : Int32) = nI 2 by decide +kernel]; exact vp_in_nI (by decide) (by decide)
        have cl : (2 : Int32).toNatClampNeg = 2 := by decide +kernel
        have k1 : (0 ≤ y ∧ y ≤ 60) → K (some (.int (D 55 2))) (am_up D 55 2 y) L := fun hy => by
          have k := hK (am_up D 55 2 y) (fo_up (by decide) (by decide) fo_rf)
          unfold gSet qSet at k
          rw [if_neg (show ¬ (2 : Int32) = 0 by decide), if_neg (show ¬ (2 : Int32) = 0 by decide), if_neg (show ¬ (2 : Int32) = 1 by decide), if_neg (show ¬ (2 : Int32) = 1 by decide), if_pos rfl, if_pos rfl, if_pos hy, if_pos hy] at k
          rw [hi.2.2.1 2 (by decide)]
          exact k (im_sett (j := 2) hi (by decide))
        have k2 : ¬ (0 ≤ y ∧ y ≤ 60) → K (some (.int (-2))) D L := fun hy => by
          have k := hK D fo_rf
          unfold gSet qSet at k
          rw [if_neg (show ¬ (2 : Int32) = 0 by decide), if_neg (show ¬ (2 : Int32) = 0 by decide), if_neg (show ¬ (2 : Int32) = 1 by decide), if_neg (show ¬ (2 : Int32) = 1 by decide), if_pos rfl, if_pos rfl, if_neg hy, if_neg hy] at k
          exact k hi
        (repeat ((conv => whnf); (first | refine zo0 ?_ | refine zo1 ?_ | refine br_z ?_ | refine br_o ?_ | refine br_zn ?_ | refine br_on ?_ | refine nz2 ?_ | refine nz6 ?_ | refine nz32 ?_ | refine And.intro (by assumption) ?_))); (conv => whnf)
        refine ⟨fun _ => ?_, fun q => absurd q (by decide)⟩
        (repeat ((conv => whnf); (first | refine zo0 ?_ | refine zo1 ?_ | refine br_z ?_ | refine br_o ?_ | refine br_zn ?_ | refine br_on ?_ | refine nz2 ?_ | refine nz6 ?_ | refine nz32 ?_ | refine And.intro (by assumption) ?_))); (conv => whnf)
        refine ⟨fun _ => ?_, fun q => absurd q (by decide)⟩
        (repeat ((conv => whnf); (first | refine zo0 ?_ | refine zo1 ?_ | refine br_z ?_ | refine br_o ?_ | refine br_zn ?_ | refine br_on ?_ | refine nz2 ?_ | refine nz6 ?_ | refine nz32 ?_ | refine And.intro (by assumption) ?_))); (conv => whnf)
        refine ⟨fun q => absurd rfl q, fun _ => ?_⟩
        (repeat ((conv => whnf); (first | refine zo0 ?_ | refine zo1 ?_ | refine br_z ?_ | refine br_o ?_ | refine br_zn ?_ | refine br_on ?_ | refine nz2 ?_ | refine nz6 ?_ | refine nz32 ?_ | refine And.intro (by assumption) ?_))); (conv => whnf)
        refine ⟨fun hy => ?_, fun hy => ?_⟩
        · have kk := k1 hy
          (repeat ((conv => whnf); (first | refine zo0 ?_ | refine zo1 ?_ | refine br_z ?_ | refine br_o ?_ | refine br_zn ?_ | refine br_on ?_ | refine nz2 ?_ | refine nz6 ?_ | refine nz32 ?_ | refine And.intro (by assumption) ?_))); (conv => whnf)
          rw [cl]
          exact kk
        · (repeat ((conv => whnf); (first | refine zo0 ?_ | refine zo1 ?_ | refine br_z ?_ | refine br_o ?_ | refine br_zn ?_ | refine br_on ?_ | refine nz2 ?_ | refine nz6 ?_ | refine nz32 ?_ | refine And.intro (by assumption) ?_))); (conv => whnf)
          exact k2 hy
    · (repeat ((conv => whnf); (first | refine zo0 ?_ | refine zo1 ?_ | refine br_z ?_ | refine br_o ?_ | refine br_zn ?_ | refine br_on ?_ | refine nz2 ?_ | refine nz6 ?_ | refine nz32 ?_ | refine And.intro (by assumption) ?_))); (conv => whnf)
      have k := hK D fo_rf
      unfold gSet qSet at k
      have q0 : ¬ x = 0 := fun e => hx (by rw [e]; decide)
      have q1 : ¬ x = 1 := fun e => hx (by rw [e]; decide)
      have q2 : ¬ x = 2 := fun e => hx (by rw [e]; decide)
      rw [if_neg q0, if_neg q0, if_neg q1, if_neg q1, if_neg q2, if_neg q2] at k
      exact k hi
  · exact absurd h id
theorem clM_set (l : Launch) : ∀ (a : Nat) (ins : Instr) (b dd : Nat), csM_set[a]? = some (ins, b, dd) → am_Call l yM_set.cls 2 ins b dd (fnM_set a) := by
  intro a ins b dd h
  match a, h with
  | 0, h => cases h; exact am_callS (okM_isThree l) wcM_isThree (am_m5 (i := 78) rfl rfl) wtM_isThree inM (by decide +kernel) (by decide) (by decide)
  | 1, h => cases h; exact am_callS (okM_in l) wcM_in (am_m5 (i := 29) rfl rfl) wtM_in inM (by decide +kernel) (by decide) (by decide)
  | k + 2, h => simp [csM_set] at h
theorem okM_set (l : Launch) : am_Ok l yM_set prog_13_method_23_code 4 (some .int) 2 spM_set := am_ok_of (by decide +kernel) flM_ok kiM_ok klM_ok ckM_set (clM_set l) wpM_set
