def gEvent (v : vs_T) (x y z : Int32) : vs_T := if 0 ≤ x ∧ x ≤ 2 then (if 0 ≤ y ∧ y ≤ 47 then (if 0 ≤ z ∧ z ≤ 11 then (if vn v 0 6 = 8 then v else am_up (am_up (am_up (am_up v 2 (vn v 0 6) x) 3 (vn v 0 6) y) 4 (vn v 0 6) z) 0 6 (nI (vn v 0 6 + 1))) else v) else v) else v
def qEvent (v : vs_T) (x y z : Int32) : Int32 := if 0 ≤ x ∧ x ≤ 2 then (if 0 ≤ y ∧ y ≤ 47 then (if 0 ≤ z ∧ z ≤ 11 then (if vn v 0 6 = 8 then -4 else nI (vn v 0 6 + 1)) else -2) else -2) else -2
def gBack (v : vs_T) : vs_T := if vn v 0 6 = 0 then v else am_up v 0 6 (nI (vn v 0 6 - 1))
def qBack (v : vs_T) : Int32 := if vn v 0 6 = 0 then -3 else nI (vn v 0 6 - 1)
def gSeen (v : vs_T) (x y : Int32) : vs_T := if 0 ≤ x ∧ x ≤ 47 then (if 0 ≤ y ∧ y ≤ 11 then (if vn v 0 7 = 8 then v else am_up (am_up (am_up v 5 (vn v 0 7) x) 6 (vn v 0 7) y) 0 7 (nI (vn v 0 7 + 1))) else v) else v
def qSeen (v : vs_T) (x y : Int32) : Int32 := if 0 ≤ x ∧ x ≤ 47 then (if 0 ≤ y ∧ y ≤ 11 then (if vn v 0 7 = 8 then -4 else nI (vn v 0 7 + 1)) else -2) else -2
def gForget (v : vs_T) : vs_T := am_up v 0 7 0
def qForget (v : vs_T) : Int32 := v 0 7
def gSet (v : vs_T) (x y : Int32) : vs_T := if x = 0 then (if 0 ≤ y ∧ y ≤ 2 then am_up v 0 3 y else v) else if x = 1 then (if 1 ≤ y ∧ y ≤ 8 then am_up v 0 4 y else v) else if x = 2 then (if 0 ≤ y ∧ y ≤ 60 then am_up v 0 5 y else v) else v
def qSet (v : vs_T) (x y : Int32) : Int32 := if x = 0 then (if 0 ≤ y ∧ y ≤ 2 then v 0 3 else -2) else if x = 1 then (if 1 ≤ y ∧ y ≤ 8 then v 0 4 else -2) else if x = 2 then (if 0 ≤ y ∧ y ≤ 60 then v 0 5 else -2) else -2
theorem vok_ev {v : vs_T} (h : vok v) : v 0 6 = nI (vn v 0 6) ∧ vn v 0 6 ≤ 8 := by
  obtain ⟨n, h1, h2, _⟩ := h.2.2.2.2.2.1
  rw [vn_nI h2 (by omega)]
  exact ⟨h2, h1⟩
theorem vok_se {v : vs_T} (h : vok v) : v 0 7 = nI (vn v 0 7) ∧ vn v 0 7 ≤ 8 := by
  obtain ⟨n, h1, h2, _⟩ := h.2.2.2.2.2.2.1
  rw [vn_nI h2 (by omega)]
  exact ⟨h2, h1⟩
def fnM_event : Nat → am_Sp := fun a => match a with
  | 0 => spM_isThree
  | 1 => spM_isMinute
  | 2 => spM_isDoor
  | _ => am_no
theorem mfM_event : ∀ a, am_mono (fnM_event a) := fun a => match a with
  | 0 => moM_isThree
  | 1 => moM_isMinute
  | 2 => moM_isDoor
  | _ + 3 => am_no_mono
def spM_event : am_Sp := fun as D L K => match as with
  | [.ref 49, .int x, .int y, .int z] => ∃ v : vs_T, vok v ∧ im D v ∧ ∀ D', fo D D' → im D' (gEvent v x y z) → K (some (.int (qEvent v x y z))) D' L
  | _ => False
theorem moM_event : am_mono spM_event := by
  intro as D L K K' hK h
  unfold spM_event at h ⊢
  split at h
  · obtain ⟨z0, z1, z2, hz⟩ := h
    exact ⟨z0, z1, z2, fun D' q1 q2 => hK _ _ _ (hz D' q1 q2)⟩
  · exact h
theorem wpM_event : ∀ (as : List Value) (D : am_D) (L : am_L) (K : am_K), spM_event as D L K → am_fit 4 as = true ∧ am_Wp false 0 cdM_event fnM_event K 0 (am_lo 4 as) [] D L := by
  intro as D L K h
  unfold spM_event at h
  split at h
  · rename_i x y z
    obtain ⟨v, hv, hi, hK⟩ := h
    obtain ⟨e0, e1⟩ := vok_ev hv
    have e7 : D 49 7 = nI (vn v 0 6) := hi.2.2.2.1.trans e0
    have n8 : nI (vn v 0 6) = 8 ↔ vn v 0 6 = 8 := by rw [show (8 : Int32) = nI 8 by decide +kernel, nI_eq (by omega) (by omega)]
    have cn : (nI (vn v 0 6)).toNatClampNeg = vn v 0 6 := nI_clamp (by omega)
    refine ⟨rfl, am_Wp_bl mfM_event [] 90 _ _ _ _ _ ?_⟩
    (repeat ((conv => whnf); (first | refine zo0 ?_ | refine zo1 ?_ | refine br_z ?_ | refine br_o ?_ | refine br_zn ?_ | refine br_on ?_ | refine nz2 ?_ | refine nz6 ?_ | refine nz32 ?_ | refine And.intro (by assumption) ?_))); (conv => whnf)
    refine ⟨fun hx => ?_, fun hx => ?_⟩
    · (repeat ((conv => whnf); (first | refine zo0 ?_ | refine zo1 ?_ | refine br_z ?_ | refine br_o ?_ | refine br_zn ?_ | refine br_on ?_ | refine nz2 ?_ | refine nz6 ?_ | refine nz32 ?_ | refine And.intro (by assumption) ?_))); (conv => whnf)
      refine ⟨fun hy => ?_, fun hy => ?_⟩
      · (repeat ((conv => whnf); (first | refine zo0 ?_ | refine zo1 ?_ | refine br_z ?_ | refine br_o ?_ | refine br_zn ?_ | refine br_on ?_ | refine nz2 ?_ | refine nz6 ?_ | refine nz32 ?_ | refine And.intro (by assumption) ?_))); (conv => whnf)
        refine ⟨fun hz => ?_, fun hz => ?_⟩
        · (repeat ((conv => whnf); (first | refine zo0 ?_ | refine zo1 ?_ | refine br_z ?_ | refine br_o ?_ | refine br_zn ?_ | refine br_on ?_ | refine nz2 ?_ | refine nz6 ?_ | refine nz32 ?_ | refine And.intro (by assumption) ?_))); (conv => whnf)
          rw [e7, n8]
          refine ⟨fun h2 => ?_, fun h2 => ?_⟩
          · have in8 : vp_in (nI (vn v 0 6)) 8 := vp_in_nI (by omega) (by decide)
            have k := hK (am_up (am_up (am_up (am_up D 56 (vn v 0 6) x) 57 (vn v 0 6) y) 58 (vn v 0 6) z) 49 7 (nI (vn v 0 6 + 1))) (fo_up (by decide) (by decide) (fo_up (by decide) (by decide) (fo_up (by decide) (by decide) (fo_up (by decide) (by decide) fo_rf))))
            unfold gEvent qEvent at k
            rw [if_pos hx, if_pos hx, if_pos hy, if_pos hy, if_pos hz, if_pos hz, if_neg h2, if_neg h2] at k
            have kk := k (im_evn (im_numb (im_mint (im_kind hi (by omega)) (by omega)) (by omega)))
            (repeat ((conv => whnf); (first | refine zo0 ?_ | refine zo1 ?_ | refine br_z ?_ | refine br_o ?_ | refine br_zn ?_ | refine br_on ?_ | refine nz2 ?_ | refine nz6 ?_ | refine nz32 ?_ | refine And.intro (by assumption) ?_))); (conv => whnf)
            try simp only [e7, cn, am_up_ne (show (49 : Nat) ≠ 56 by decide), am_up_ne (show (49 : Nat) ≠ 57 by decide), am_up_ne (show (49 : Nat) ≠ 58 by decide), ap_s, nI_1]
            (repeat ((conv => whnf); (first | refine zo0 ?_ | refine zo1 ?_ | refine br_z ?_ | refine br_o ?_ | refine br_zn ?_ | refine br_on ?_ | refine nz2 ?_ | refine nz6 ?_ | refine nz32 ?_ | refine And.intro (by assumption) ?_))); (conv => whnf)
            try simp only [e7, cn, am_up_ne (show (49 : Nat) ≠ 56 by decide), am_up_ne (show (49 : Nat) ≠ 57 by decide), am_up_ne (show (49 : Nat) ≠ 58 by decide), ap_s, nI_1]
            (repeat ((conv => whnf); (first | refine zo0 ?_ | refine zo1 ?_ | refine br_z ?_ | refine br_o ?_ | refine br_zn ?_ | refine br_on ?_ | refine nz2 ?_ | refine nz6 ?_ | refine nz32 ?_ | refine And.intro (by assumption) ?_))); (conv => whnf)
            try simp only [e7, cn, am_up_ne (show (49 : Nat) ≠ 56 by decide), am_up_ne (show (49 : Nat) ≠ 57 by decide), am_up_ne (show (49 : Nat) ≠ 58 by decide), ap_s, nI_1]
            (repeat ((conv => whnf); (first | refine zo0 ?_ | refine zo1 ?_ | refine br_z ?_ | refine br_o ?_ | refine br_zn ?_ | refine br_on ?_ | refine nz2 ?_ | refine nz6 ?_ | refine nz32 ?_ | refine And.intro (by assumption) ?_))); (conv => whnf)
            try simp only [e7, cn, am_up_ne (show (49 : Nat) ≠ 56 by decide), am_up_ne (show (49 : Nat) ≠ 57 by decide), am_up_ne (show (49 : Nat) ≠ 58 by decide), ap_s, nI_1]
            (repeat ((conv => whnf); (first | refine zo0 ?_ | refine zo1 ?_ | refine br_z ?_ | refine br_o ?_ | refine br_zn ?_ | refine br_on ?_ | refine nz2 ?_ | refine nz6 ?_ | refine nz32 ?_ | refine And.intro (by assumption) ?_))); (conv => whnf)
            try simp only [e7, cn, am_up_ne (show (49 : Nat) ≠ 56 by decide), am_up_ne (show (49 : Nat) ≠ 57 by decide), am_up_ne (show (49 : Nat) ≠ 58 by decide), ap_s, nI_1]
            exact kk
          · (repeat ((conv => whnf); (first | refine zo0 ?_ | refine zo1 ?_ | refine br_z ?_ | refine br_o ?_ | refine br_zn ?_ | refine br_on ?_ | refine nz2 ?_ | refine nz6 ?_ | refine nz32 ?_ | refine And.intro (by assumption) ?_))); (conv => whnf)
            have k := hK D fo_rf
            unfold gEvent qEvent at k
            rw [if_pos hx, if_pos hx, if_pos hy, if_pos hy, if_pos hz, if_pos hz, if_pos h2, if_pos h2] at k
            exact k hi
        · (repeat ((conv => whnf); (first | refine zo0 ?_ | refine zo1 ?_ | refine br_z ?_ | refine br_o ?_ | refine br_zn ?_ | refine br_on ?_ | refine nz2 ?_ | refine nz6 ?_ | refine nz32 ?_ | refine And.intro (by assumption) ?_))); (conv => whnf)
          have k := hK D fo_rf
          unfold gEvent qEvent at k
          rw [if_pos hx, if_pos hx, if_pos hy, if_pos hy, if_neg hz, if_neg hz] at k
          exact k hi
      · (repeat ((conv => whnf); (first | refine zo0 ?_ | refine zo1 ?_ | refine br_z ?_ | refine br_o ?_ | refine br_zn ?_ | refine br_on ?_ | refine nz2 ?_ | refine nz6 ?_ | refine nz32 ?_ | refine And.intro (by assumption) ?_))); (conv => whnf)
        have k := hK D fo_rf
        unfold gEvent qEvent at k
        rw [if_pos hx, if_pos hx, if_neg hy, if_neg hy] at k
        exact k hi
    · (repeat ((conv => whnf); (first | refine zo0 ?_ | refine zo1 ?_ | refine br_z ?_ | refine br_o ?_ | refine br_zn ?_ | refine br_on ?_ | refine nz2 ?_ | refine nz6 ?_ | refine nz32 ?_ | refine And.intro (by assumption) ?_))); (conv => whnf)
      have k := hK D fo_rf
      unfold gEvent qEvent at k
      rw [if_neg hx, if_neg hx] at k
      exact k hi
  · exact absurd h id
theorem clM_event (l : Launch) : ∀ (a : Nat) (ins : Instr) (b dd : Nat), csM_event[a]? = some (ins, b, dd) → am_Call l yM_event.cls 2 ins b dd (fnM_event a) := by
  intro a ins b dd h
  match a, h with
  | 0, h => cases h; exact am_callS (okM_isThree l) wcM_isThree (am_m5 (i := 78) rfl rfl) wtM_isThree inM (by decide +kernel) (by decide) (by decide)
  | 1, h => cases h; exact am_callS (okM_isMinute l) wcM_isMinute (am_m5 (i := 85) rfl rfl) wtM_isMinute inM (by decide +kernel) (by decide) (by decide)
  | 2, h => cases h; exact am_callS (okM_isDoor l) wcM_isDoor (am_m5 (i := 52) rfl rfl) wtM_isDoor inM (by decide +kernel) (by decide) (by decide)
  | k + 3, h => simp [csM_event] at h
theorem okM_event (l : Launch) : am_Ok l yM_event prog_13_method_24_code 4 (some .int) 2 spM_event := am_ok_of (by decide +kernel) flM_ok kiM_ok klM_ok ckM_event (clM_event l) wpM_event
def fnM_back : Nat → am_Sp := fun _ => am_no
theorem mfM_back : ∀ a, am_mono (fnM_back a) := fun _ => am_no_mono
def spM_back : am_Sp := fun as D L K => match as with
  | [.ref 49] => ∃ v : vs_T, vok v ∧ im D v ∧ ∀ D', fo D D' → im D' (gBack v) → K (some (.int (qBack v))) D' L
  | _ => False
theorem moM_back : am_mono spM_back := by
  intro as D L K K' hK h
  unfold spM_back at h ⊢
  split at h
  · obtain ⟨z0, z1, z2, hz⟩ := h
    exact ⟨z0, z1, z2, fun D' q1 q2 => hK _ _ _ (hz D' q1 q2)⟩
  · exact h
theorem wpM_back : ∀ (as : List Value) (D : am_D) (L : am_L) (K : am_K), spM_back as D L K → am_fit 1 as = true ∧ am_Wp false 0 cdM_back fnM_back K 0 (am_lo 1 as) [] D L := by
  intro as D L K h
  unfold spM_back at h
  split at h
  · obtain ⟨v, hv, hi, hK⟩ := h
    obtain ⟨e0, e1⟩ := vok_ev hv
    have e7 : D 49 7 = nI (vn v 0 6) := hi.2.2.2.1.trans e0
    have n0 : nI (vn v 0 6) = 0 ↔ vn v 0 6 = 0 := by rw [← nI_0, nI_eq (by omega) (by omega)]
    refine ⟨rfl, am_Wp_bl mfM_back [] 90 _ _ _ _ _ ?_⟩
    (repeat ((conv => whnf); (first | refine zo0 ?_ | refine zo1 ?_ | refine br_z ?_ | refine br_o ?_ | refine br_zn ?_ | refine br_on ?_ | refine nz2 ?_ | refine nz6 ?_ | refine nz32 ?_ | refine And.intro (by assumption) ?_))); (conv => whnf)
    rw [e7, n0]
    refine ⟨fun h2 => ?_, fun h2 => ?_⟩
    · (repeat ((conv => whnf); (first | refine zo0 ?_ | refine zo1 ?_ | refine br_z ?_ | refine br_o ?_ | refine br_zn ?_ | refine br_on ?_ | refine nz2 ?_ | refine nz6 ?_ | refine nz32 ?_ | refine And.intro (by assumption) ?_))); (conv => whnf)
      rw [e7, nI_sub1 (by omega), ap_s]
      have k := hK (am_up D 49 7 (nI (vn v 0 6 - 1))) (fo_up (by decide) (by decide) fo_rf)
      unfold gBack qBack at k
      rw [if_neg h2, if_neg h2] at k
      exact k (im_evn hi)
    · (repeat ((conv => whnf); (first | refine zo0 ?_ | refine zo1 ?_ | refine br_z ?_ | refine br_o ?_ | refine br_zn ?_ | refine br_on ?_ | refine nz2 ?_ | refine nz6 ?_ | refine nz32 ?_ | refine And.intro (by assumption) ?_))); (conv => whnf)
      have k := hK D fo_rf
      unfold gBack qBack at k
      rw [if_pos h2, if_pos h2] at k
      exact k hi
  · exact absurd h id
theorem clM_back (l : Launch) : ∀ (a : Nat) (ins : Instr) (b dd : Nat), csM_back[a]? = some (ins, b, dd) → am_Call l yM_back.cls 0 ins b dd (fnM_back a) := by
  intro a ins b dd h
  match a, h with
  | k + 0, h => simp [csM_back] at h
theorem okM_back (l : Launch) : am_Ok l yM_back prog_13_method_25_code 1 (some .int) 0 spM_back := am_ok_of (by decide +kernel) flM_ok kiM_ok klM_ok ckM_back (clM_back l) wpM_back
def fnM_seen : Nat → am_Sp := fun a => match a with
  | 0 => spM_isMinute
  | 1 => spM_isDoor
  | _ => am_no
theorem mfM_seen : ∀ a, am_mono (fnM_seen a) := fun a => match a with
  | 0 => moM_isMinute
  | 1 => moM_isDoor
  | _ + 2 => am_no_mono
def spM_seen : am_Sp := fun as D L K => match as with
  | [.ref 49, .int x, .int y] => ∃ v : vs_T, vok v ∧ im D v ∧ ∀ D', fo D D' → im D' (gSeen v x y) → K (some (.int (qSeen v x y))) D' L
  | _ => False
theorem moM_seen : am_mono spM_seen := by
  intro as D L K K' hK h
  unfold spM_seen at h ⊢
  split at h
  · obtain ⟨z0, z1, z2, hz⟩ := h
    exact ⟨z0, z1, z2, fun D' q1 q2 => hK _ _ _ (hz D' q1 q2)⟩
  · exact h
theorem wpM_seen : ∀ (as : List Value) (D : am_D) (L : am_L) (K : am_K), spM_seen as D L K → am_fit 3 as = true ∧ am_Wp false 0 cdM_seen fnM_seen K 0 (am_lo 3 as) [] D L := by
  intro as D L K h
  unfold spM_seen at h
  split at h
  · rename_i x y
    obtain ⟨v, hv, hi, hK⟩ := h
    obtain ⟨e0, e1⟩ := vok_se hv
    have e7 : D 49 42 = nI (vn v 0 7) := hi.2.2.2.2.2.1.trans e0
    have n8 : nI (vn v 0 7) = 8 ↔ vn v 0 7 = 8 := by rw [show (8 : Int32) = nI 8 by decide +kernel, nI_eq (by omega) (by omega)]
    have cn : (nI (vn v 0 7)).toNatClampNeg = vn v 0 7 := nI_clamp (by omega)
    refine ⟨rfl, am_Wp_bl mfM_seen [] 90 _ _ _ _ _ ?_⟩
    (repeat ((conv => whnf); (first | refine zo0 ?_ | refine zo1 ?_ | refine br_z ?_ | refine br_o ?_ | refine br_zn ?_ | refine br_on ?_ | refine nz2 ?_ | refine nz6 ?_ | refine nz32 ?_ | refine And.intro (by assumption) ?_))); (conv => whnf)
    refine ⟨fun hx => ?_, fun hx => ?_⟩
    · (repeat ((conv => whnf); (first | refine zo0 ?_ | refine zo1 ?_ | refine br_z ?_ | refine br_o ?_ | refine br_zn ?_ | refine br_on ?_ | refine nz2 ?_ | refine nz6 ?_ | refine nz32 ?_ | refine And.intro (by assumption) ?_))); (conv => whnf)
      refine ⟨fun hy => ?_, fun hy => ?_⟩
      · (repeat ((conv => whnf); (first | refine zo0 ?_ | refine zo1 ?_ | refine br_z ?_ | refine br_o ?_ | refine br_zn ?_ | refine br_on ?_ | refine nz2 ?_ | refine nz6 ?_ | refine nz32 ?_ | refine And.intro (by assumption) ?_))); (conv => whnf)
        rw [e7, n8]
        refine ⟨fun h2 => ?_, fun h2 => ?_⟩
        · have in8 : vp_in (nI (vn v 0 7)) 8 := vp_in_nI (by omega) (by decide)
          have k := hK (am_up (am_up (am_up D 71 (vn v 0 7) x) 72 (vn v 0 7) y) 49 42 (nI (vn v 0 7 + 1))) (fo_up (by decide) (by decide) (fo_up (by decide) (by decide) (fo_up (by decide) (by decide) fo_rf)))
          unfold gSeen qSeen at k
          rw [if_pos hx, if_pos hx, if_pos hy, if_pos hy, if_neg h2, if_neg h2] at k
          have kk := k (im_see (im_sdo (im_sat hi (by omega)) (by omega)))
          (repeat ((conv => whnf); (first | refine zo0 ?_ | refine zo1 ?_ | refine br_z ?_ | refine br_o ?_ | refine br_zn ?_ | refine br_on ?_ | refine nz2 ?_ | refine nz6 ?_ | refine nz32 ?_ | refine And.intro (by assumption) ?_))); (conv => whnf)
          try simp only [e7, cn, am_up_ne (show (49 : Nat) ≠ 71 by decide), am_up_ne (show (49 : Nat) ≠ 72 by decide), ap_s, nI_1]
          (repeat ((conv => whnf); (first | refine zo0 ?_ | refine zo1 ?_ | refine br_z ?_ | refine br_o ?_ | refine br_zn ?_ | refine br_on ?_ | refine nz2 ?_ | refine nz6 ?_ | refine nz32 ?_ | refine And.intro (by assumption) ?_))); (conv => whnf)
          try simp only [e7, cn, am_up_ne (show (49 : Nat) ≠ 71 by decide), am_up_ne (show (49 : Nat) ≠ 72 by decide), ap_s, nI_1]
          (repeat ((conv => whnf); (first | refine zo0 ?_ | refine zo1 ?_ | refine br_z ?_ | refine br_o ?_ | refine br_zn ?_ | refine br_on ?_ | refine nz2 ?_ | refine nz6 ?_ | refine nz32 ?_ | refine And.intro (by assumption) ?_))); (conv => whnf)
          try simp only [e7, cn, am_up_ne (show (49 : Nat) ≠ 71 by decide), am_up_ne (show (49 : Nat) ≠ 72 by decide), ap_s, nI_1]
          (repeat ((conv => whnf); (first | refine zo0 ?_ | refine zo1 ?_ | refine br_z ?_ | refine br_o ?_ | refine br_zn ?_ | refine br_on ?_ | refine nz2 ?_ | refine nz6 ?_ | refine nz32 ?_ | refine And.intro (by assumption) ?_))); (conv => whnf)
          try simp only [e7, cn, am_up_ne (show (49 : Nat) ≠ 71 by decide), am_up_ne (show (49 : Nat) ≠ 72 by decide), ap_s, nI_1]
          (repeat ((conv => whnf); (first | refine zo0 ?_ | refine zo1 ?_ | refine br_z ?_ | refine br_o ?_ | refine br_zn ?_ | refine br_on ?_ | refine nz2 ?_ | refine nz6 ?_ | refine nz32 ?_ | refine And.intro (by assumption) ?_))); (conv => whnf)
          try simp only [e7, cn, am_up_ne (show (49 : Nat) ≠ 71 by decide), am_up_ne (show (49 : Nat) ≠ 72 by decide), ap_s, nI_1]
          exact kk
        · (repeat ((conv => whnf); (first | refine zo0 ?_ | refine zo1 ?_ | refine br_z ?_ | refine br_o ?_ | refine br_zn ?_ | refine br_on ?_ | refine nz2 ?_ | refine nz6 ?_ | refine nz32 ?_ | refine And.intro (by assumption) ?_))); (conv => whnf)
          have k := hK D fo_rf
          unfold gSeen qSeen at k
          rw [if_pos hx, if_pos hx, if_pos hy, if_pos hy, if_pos h2, if_pos h2] at k
          exact k hi
      · (repeat ((conv => whnf); (first | refine zo0 ?_ | refine zo1 ?_ | refine br_z ?_ | refine br_o ?_ | refine br_zn ?_ | refine br_on ?_ | refine nz2 ?_ | refine nz6 ?_ | refine nz32 ?_ | refine And.intro (by assumption) ?_))); (conv => whnf)
        have k := hK D fo_rf
        unfold gSeen qSeen at k
        rw [if_pos hx, if_pos hx, if_neg hy, if_neg hy] at k
        exact k hi
    · (repeat ((conv => whnf); (first | refine zo0 ?_ | refine zo1 ?_ | refine br_z ?_ | refine br_o ?_ | refine br_zn ?_ | refine br_on ?_ | refine nz2 ?_ | refine nz6 ?_ | refine nz32 ?_ | refine And.intro (by assumption) ?_))); (conv => whnf)
      have k := hK D fo_rf
      unfold gSeen qSeen at k
      rw [if_neg hx, if_neg hx] at k
      exact k hi
  · exact absurd h id
theorem clM_seen (l : Launch) : ∀ (a : Nat) (ins : Instr) (b dd : Nat), csM_seen[a]? = some (ins, b, dd) → am_Call l yM_seen.cls 2 ins b dd (fnM_seen a) := by
  intro a ins b dd h
  match a, h with
  | 0, h => cases h; exact am_callS (okM_isMinute l) wcM_isMinute (am_m5 (i := 85) rfl rfl) wtM_isMinute inM (by decide +kernel) (by decide) (by decide)
  | 1, h => cases h; exact am_callS (okM_isDoor l) wcM_isDoor (am_m5 (i := 52) rfl rfl) wtM_isDoor inM (by decide +kernel) (by decide) (by decide)
  | k + 2, h => simp [csM_seen] at h
theorem okM_seen (l : Launch) : am_Ok l yM_seen prog_13_method_66_code 3 (some .int) 2 spM_seen := am_ok_of (by decide +kernel) flM_ok kiM_ok klM_ok ckM_seen (clM_seen l) wpM_seen
def fnM_forget : Nat → am_Sp := fun _ => am_no
theorem mfM_forget : ∀ a, am_mono (fnM_forget a) := fun _ => am_no_mono
def spM_forget : am_Sp := fun as D L K => match as with
  | [.ref 49] => ∃ v : vs_T, vok v ∧ im D v ∧ ∀ D', fo D D' → im D' (gForget v) → K (some (.int (qForget v))) D' L
  | _ => False
theorem moM_forget : am_mono spM_forget := by
  intro as D L K K' hK h
  unfold spM_forget at h ⊢
  split at h
  · obtain ⟨z0, z1, z2, hz⟩ := h
    exact ⟨z0, z1, z2, fun D' q1 q2 => hK _ _ _ (hz D' q1 q2)⟩
  · exact h
theorem wpM_forget : ∀ (as : List Value) (D : am_D) (L : am_L) (K : am_K), spM_forget as D L K → am_fit 2 as = true ∧ am_Wp false 0 cdM_forget fnM_forget K 0 (am_lo 2 as) [] D L := by
  intro as D L K h
  unfold spM_forget at h
  split at h
  · obtain ⟨v, hv, hi, hK⟩ := h
    refine ⟨rfl, am_Wp_bl mfM_forget [] 90 _ _ _ _ _ ?_⟩
    (repeat ((conv => whnf); (first | refine zo0 ?_ | refine zo1 ?_ | refine br_z ?_ | refine br_o ?_ | refine br_zn ?_ | refine br_on ?_ | refine nz2 ?_ | refine nz6 ?_ | refine nz32 ?_ | refine And.intro (by assumption) ?_))); (conv => whnf)
    have k := hK (am_up D 49 42 0) (fo_up (by decide) (by decide) fo_rf) (im_see hi)
    unfold qForget at k
    rw [← hi.2.2.2.2.2.1] at k
    exact k
  · exact absurd h id
theorem clM_forget (l : Launch) : ∀ (a : Nat) (ins : Instr) (b dd : Nat), csM_forget[a]? = some (ins, b, dd) → am_Call l yM_forget.cls 0 ins b dd (fnM_forget a) := by
  intro a ins b dd h
  match a, h with
  | k + 0, h => simp [csM_forget] at h
theorem okM_forget (l : Launch) : am_Ok l yM_forget prog_13_method_67_code 2 (some .int) 0 spM_forget := am_ok_of (by decide +kernel) flM_ok kiM_ok klM_ok ckM_forget (clM_forget l) wpM_forget
