theorem ap (D : am_D) (k j : Nat) (x : Int32) (q i : Nat) : am_up D k j x q i = if q = k then (if i = j then x else D q i) else D q i := by
  unfold am_up
  split
  · rename_i h; subst h; unfold upd; rfl
  · rfl
theorem ap_s {D : am_D} {k j : Nat} {x : Int32} : am_up D k j x k j = x := by rw [ap, if_pos rfl, if_pos rfl]
theorem im_len {D : am_D} {v : vs_T} {x : Int32} {j : Nat} (h : im D v) (hj : j < 3) : im (am_up D 50 j x) (am_up v 0 j x) := by
  obtain ⟨h1, h2, h3, h4, h5, h6, h7, h8, h9, h10⟩ := h
  refine ⟨fun i hi => ?_, fun i hi => ?_, fun i hi => ?_, ?_, fun i hi => ?_, ?_, fun i hi => ?_, ?_, fun i hi => ?_, fun i hi => ?_⟩
  all_goals (simp only [ap]; grind)
theorem im_byte {D : am_D} {v : vs_T} {x : Int32} {j : Nat} (h : im D v) (hj : j < 72) : im (am_up D 51 j x) (am_up v 1 j x) := by
  obtain ⟨h1, h2, h3, h4, h5, h6, h7, h8, h9, h10⟩ := h
  refine ⟨fun i hi => ?_, fun i hi => ?_, fun i hi => ?_, ?_, fun i hi => ?_, ?_, fun i hi => ?_, ?_, fun i hi => ?_, fun i hi => ?_⟩
  all_goals (simp only [ap]; grind)
theorem im_sett {D : am_D} {v : vs_T} {x : Int32} {j : Nat} (h : im D v) (hj : j < 3) : im (am_up D 55 j x) (am_up v 0 (j + 3) x) := by
  obtain ⟨h1, h2, h3, h4, h5, h6, h7, h8, h9, h10⟩ := h
  refine ⟨fun i hi => ?_, fun i hi => ?_, fun i hi => ?_, ?_, fun i hi => ?_, ?_, fun i hi => ?_, ?_, fun i hi => ?_, fun i hi => ?_⟩
  all_goals (simp only [ap]; grind)
theorem im_kind {D : am_D} {v : vs_T} {x : Int32} {j : Nat} (h : im D v) (hj : j < 8) : im (am_up D 56 j x) (am_up v 2 j x) := by
  obtain ⟨h1, h2, h3, h4, h5, h6, h7, h8, h9, h10⟩ := h
  refine ⟨fun i hi => ?_, fun i hi => ?_, fun i hi => ?_, ?_, fun i hi => ?_, ?_, fun i hi => ?_, ?_, fun i hi => ?_, fun i hi => ?_⟩
  all_goals (simp only [ap]; grind)
theorem im_mint {D : am_D} {v : vs_T} {x : Int32} {j : Nat} (h : im D v) (hj : j < 8) : im (am_up D 57 j x) (am_up v 3 j x) := by
  obtain ⟨h1, h2, h3, h4, h5, h6, h7, h8, h9, h10⟩ := h
  refine ⟨fun i hi => ?_, fun i hi => ?_, fun i hi => ?_, ?_, fun i hi => ?_, ?_, fun i hi => ?_, ?_, fun i hi => ?_, fun i hi => ?_⟩
  all_goals (simp only [ap]; grind)
theorem im_numb {D : am_D} {v : vs_T} {x : Int32} {j : Nat} (h : im D v) (hj : j < 8) : im (am_up D 58 j x) (am_up v 4 j x) := by
  obtain ⟨h1, h2, h3, h4, h5, h6, h7, h8, h9, h10⟩ := h
  refine ⟨fun i hi => ?_, fun i hi => ?_, fun i hi => ?_, ?_, fun i hi => ?_, ?_, fun i hi => ?_, ?_, fun i hi => ?_, fun i hi => ?_⟩
  all_goals (simp only [ap]; grind)
theorem im_sat {D : am_D} {v : vs_T} {x : Int32} {j : Nat} (h : im D v) (hj : j < 8) : im (am_up D 71 j x) (am_up v 5 j x) := by
  obtain ⟨h1, h2, h3, h4, h5, h6, h7, h8, h9, h10⟩ := h
  refine ⟨fun i hi => ?_, fun i hi => ?_, fun i hi => ?_, ?_, fun i hi => ?_, ?_, fun i hi => ?_, ?_, fun i hi => ?_, fun i hi => ?_⟩
  all_goals (simp only [ap]; grind)
theorem im_sdo {D : am_D} {v : vs_T} {x : Int32} {j : Nat} (h : im D v) (hj : j < 8) : im (am_up D 72 j x) (am_up v 6 j x) := by
  obtain ⟨h1, h2, h3, h4, h5, h6, h7, h8, h9, h10⟩ := h
  refine ⟨fun i hi => ?_, fun i hi => ?_, fun i hi => ?_, ?_, fun i hi => ?_, ?_, fun i hi => ?_, ?_, fun i hi => ?_, fun i hi => ?_⟩
  all_goals (simp only [ap]; grind)
theorem im_there {D : am_D} {v : vs_T} {x : Int32} {j : Nat} (h : im D v) (hj : j < 4) : im (am_up D 74 j x) (am_up v 7 j x) := by
  obtain ⟨h1, h2, h3, h4, h5, h6, h7, h8, h9, h10⟩ := h
  refine ⟨fun i hi => ?_, fun i hi => ?_, fun i hi => ?_, ?_, fun i hi => ?_, ?_, fun i hi => ?_, ?_, fun i hi => ?_, fun i hi => ?_⟩
  all_goals (simp only [ap]; grind)
theorem im_form {D : am_D} {v : vs_T} {x : Int32} {j : Nat} (h : im D v) (hj : j < 4) : im (am_up D 75 j x) (am_up v 8 j x) := by
  obtain ⟨h1, h2, h3, h4, h5, h6, h7, h8, h9, h10⟩ := h
  refine ⟨fun i hi => ?_, fun i hi => ?_, fun i hi => ?_, ?_, fun i hi => ?_, ?_, fun i hi => ?_, ?_, fun i hi => ?_, fun i hi => ?_⟩
  all_goals (simp only [ap]; grind)
theorem im_size {D : am_D} {v : vs_T} {x : Int32} {j : Nat} (h : im D v) (hj : j < 4) : im (am_up D 76 j x) (am_up v 9 j x) := by
  obtain ⟨h1, h2, h3, h4, h5, h6, h7, h8, h9, h10⟩ := h
  refine ⟨fun i hi => ?_, fun i hi => ?_, fun i hi => ?_, ?_, fun i hi => ?_, ?_, fun i hi => ?_, ?_, fun i hi => ?_, fun i hi => ?_⟩
  all_goals (simp only [ap]; grind)
theorem im_item {D : am_D} {v : vs_T} {x : Int32} {j : Nat} (h : im D v) (hj : j < 240) : im (am_up D 77 j x) (am_up v 10 j x) := by
  obtain ⟨h1, h2, h3, h4, h5, h6, h7, h8, h9, h10⟩ := h
  refine ⟨fun i hi => ?_, fun i hi => ?_, fun i hi => ?_, ?_, fun i hi => ?_, ?_, fun i hi => ?_, ?_, fun i hi => ?_, fun i hi => ?_⟩
  all_goals (simp only [ap]; grind)
theorem im_evn {D : am_D} {v : vs_T} {x : Int32} (h : im D v) : im (am_up D 49 7 x) (am_up v 0 6 x) := by
  obtain ⟨h1, h2, h3, h4, h5, h6, h7, h8, h9, h10⟩ := h
  refine ⟨fun i hi => ?_, fun i hi => ?_, fun i hi => ?_, ?_, fun i hi => ?_, ?_, fun i hi => ?_, ?_, fun i hi => ?_, fun i hi => ?_⟩
  all_goals (simp only [ap]; grind)
theorem im_see {D : am_D} {v : vs_T} {x : Int32} (h : im D v) : im (am_up D 49 42 x) (am_up v 0 7 x) := by
  obtain ⟨h1, h2, h3, h4, h5, h6, h7, h8, h9, h10⟩ := h
  refine ⟨fun i hi => ?_, fun i hi => ?_, fun i hi => ?_, ?_, fun i hi => ?_, ?_, fun i hi => ?_, ?_, fun i hi => ?_, fun i hi => ?_⟩
  all_goals (simp only [ap]; grind)
theorem im_find {D : am_D} {v : vs_T} {x : Int32} (h : im D v) : im (am_up D 49 51 x) (am_up v 0 8 x) := by
  obtain ⟨h1, h2, h3, h4, h5, h6, h7, h8, h9, h10⟩ := h
  refine ⟨fun i hi => ?_, fun i hi => ?_, fun i hi => ?_, ?_, fun i hi => ?_, ?_, fun i hi => ?_, ?_, fun i hi => ?_, fun i hi => ?_⟩
  all_goals (simp only [ap]; grind)
def fo (D D' : am_D) : Prop := ∀ k, k < 49 ∨ 79 ≤ k → D' k = D k
theorem fo_rf {D : am_D} : fo D D := fun _ _ => rfl
theorem fo_up {D D' : am_D} {k j : Nat} {x : Int32} (h1 : 49 ≤ k) (h2 : k ≤ 78) (h : fo D D') : fo D (am_up D' k j x) := fun q hq => by rw [am_up_ne (by omega)]; exact h q hq
def gType (v : vs_T) (x y : Int32) : vs_T := if 0 ≤ x ∧ x ≤ 2 then (if 0 ≤ y ∧ y ≤ 255 then (if vn v 0 (cN x) = vcap (cN x) then v else am_up (am_up v 1 (24 * cN x + vn v 0 (cN x)) y) 0 (cN x) (nI (vn v 0 (cN x) + 1))) else v) else v
def qType (v : vs_T) (x y : Int32) : Int32 := if 0 ≤ x ∧ x ≤ 2 then (if 0 ≤ y ∧ y ≤ 255 then (if vn v 0 (cN x) = vcap (cN x) then -4 else nI (vn v 0 (cN x) + 1)) else -2) else -2
def gWipe (v : vs_T) (x : Int32) : vs_T := if 0 ≤ x ∧ x ≤ 2 then am_up v 0 (cN x) 0 else v
def qWipe (v : vs_T) (x : Int32) : Int32 := if 0 ≤ x ∧ x ≤ 2 then v 0 (cN x) else -2
def gUndo (v : vs_T) (x : Int32) : vs_T := if 0 ≤ x ∧ x ≤ 2 then (if vn v 0 (cN x) = 0 then v else am_up v 0 (cN x) (nI (vn v 0 (cN x) - 1))) else v
def qUndo (v : vs_T) (x : Int32) : Int32 := if 0 ≤ x ∧ x ≤ 2 then (if vn v 0 (cN x) = 0 then -3 else nI (vn v 0 (cN x) - 1)) else -2
theorem vok_lenu {v : vs_T} {t n : Nat} (h : vok v) (ht : t < 3) (hn : n ≤ vcap t) : vok (am_up v 0 t (nI n)) := by
  obtain ⟨h1, h2, h3, h4, h5, h6, h7, h8⟩ := h
  refine ⟨fun i hi => ?_, fun i hi => ?_, ?_, ?_, ?_, ?_, ?_, fun s hs => ?_⟩
  · by_cases e : i = t
    · subst e
      exact ⟨n, hn, by simp [ap]⟩
    · have := h1 i hi
      simp only [ap]
      rw [if_pos trivial, if_neg e]
      exact this
  all_goals (simp only [ap]; grind)
theorem vok_byteu {v : vs_T} {i n : Nat} (h : vok v) (hn : n ≤ 255) : vok (am_up v 1 i (nI n)) := by
  obtain ⟨h1, h2, h3, h4, h5, h6, h7, h8⟩ := h
  refine ⟨fun i hi => ?_, fun j hj => ?_, ?_, ?_, ?_, ?_, ?_, fun s hs => ?_⟩
  · have := h1 i hi
    simp only [ap]
    grind
  · by_cases e : j = i
    · subst e
      exact ⟨n, hn, by simp [ap]⟩
    · have := h2 j hj
      simp only [ap]
      rw [if_pos trivial, if_neg e]
      exact this
  all_goals (simp only [ap]; grind)
def fnM_wipe : Nat → am_Sp := fun a => match a with
  | 0 => spM_isText
  | _ => am_no
theorem mfM_wipe : ∀ a, am_mono (fnM_wipe a) := fun a => match a with
  | 0 => moM_isText
  | _ + 1 => am_no_mono
def spM_wipe : am_Sp := fun as D L K => match as with
  | [.ref 49, .int x] => ∃ v : vs_T, vok v ∧ im D v ∧ ∀ D', fo D D' → im D' (gWipe v x) → K (some (.int (qWipe v x))) D' L
  | _ => False
theorem moM_wipe : am_mono spM_wipe := by
  intro as D L K K' hK h
  unfold spM_wipe at h ⊢
  split at h
  · obtain ⟨z0, z1, z2, hz⟩ := h
    exact ⟨z0, z1, z2, fun D' q1 q2 => hK _ _ _ (hz D' q1 q2)⟩
  · exact h
theorem wpM_wipe : ∀ (as : List Value) (D : am_D) (L : am_L) (K : am_K), spM_wipe as D L K → am_fit 3 as = true ∧ am_Wp false 0 cdM_wipe fnM_wipe K 0 (am_lo 3 as) [] D L := by
  intro as D L K h
  unfold spM_wipe at h
  split at h
  · rename_i x
    obtain ⟨v, hv, hi, hK⟩ := h
    refine ⟨rfl, am_Wp_bl mfM_wipe [] 60 _ _ _ _ _ ?_⟩
    (repeat ((conv => whnf); (first | refine zo0 ?_ | refine zo1 ?_ | refine br_z ?_ | refine br_o ?_ | refine br_zn ?_ | refine br_on ?_ | refine nz2 ?_ | refine nz6 ?_ | refine nz32 ?_ | refine And.intro (by assumption) ?_))); (conv => whnf)
    refine ⟨fun hx => ?_, fun hx => ?_⟩
    · obtain ⟨t, ht, et⟩ := rg_nI (n := 2) (by decide) hx
      subst et
      have in3 : vp_in (nI t) 3 := vp_in_nI (by omega) (by decide)
      have ct : (nI t).toNatClampNeg = t := nI_clamp (by omega)
      (repeat ((conv => whnf); (first | refine zo0 ?_ | refine zo1 ?_ | refine br_z ?_ | refine br_o ?_ | refine br_zn ?_ | refine br_on ?_ | refine nz2 ?_ | refine nz6 ?_ | refine nz32 ?_ | refine And.intro (by assumption) ?_))); (conv => whnf)
      rw [ct]
      have k := hK (am_up D 50 t 0) (fo_up (by decide) (by decide) fo_rf)
      unfold gWipe qWipe at k
      rw [if_pos hx, if_pos hx, cN_nI (by omega), ← hi.1 t (by omega)] at k
      exact k (im_len hi (by omega))
    · (repeat ((conv => whnf); (first | refine zo0 ?_ | refine zo1 ?_ | refine br_z ?_ | refine br_o ?_ | refine br_zn ?_ | refine br_on ?_ | refine nz2 ?_ | refine nz6 ?_ | refine nz32 ?_ | refine And.intro (by assumption) ?_))); (conv => whnf)
      have k := hK D fo_rf
      unfold gWipe qWipe at k
      rw [if_neg hx, if_neg hx] at k
      exact k hi
  · exact absurd h id
theorem clM_wipe (l : Launch) : ∀ (a : Nat) (ins : Instr) (b dd : Nat), csM_wipe[a]? = some (ins, b, dd) → am_Call l yM_wipe.cls 2 ins b dd (fnM_wipe a) := by
  intro a ins b dd h
  match a, h with
  | 0, h => cases h; exact am_callS (okM_isText l) wcM_isText (am_m5 (i := 26) rfl rfl) wtM_isText inM (by decide +kernel) (by decide) (by decide)
  | k + 1, h => simp [csM_wipe] at h
theorem okM_wipe (l : Launch) : am_Ok l yM_wipe prog_13_method_14_code 3 (some .int) 2 spM_wipe := am_ok_of (by decide +kernel) flM_ok kiM_ok klM_ok ckM_wipe (clM_wipe l) wpM_wipe
def fnM_undo : Nat → am_Sp := fun a => match a with
  | 0 => spM_isText
  | _ => am_no
theorem mfM_undo : ∀ a, am_mono (fnM_undo a) := fun a => match a with
  | 0 => moM_isText
  | _ + 1 => am_no_mono
def spM_undo : am_Sp := fun as D L K => match as with
  | [.ref 49, .int x] => ∃ v : vs_T, vok v ∧ im D v ∧ ∀ D', fo D D' → im D' (gUndo v x) → K (some (.int (qUndo v x))) D' L
  | _ => False
theorem moM_undo : am_mono spM_undo := by
  intro as D L K K' hK h
  unfold spM_undo at h ⊢
  split at h
  · obtain ⟨z0, z1, z2, hz⟩ := h
    exact ⟨z0, z1, z2, fun D' q1 q2 => hK _ _ _ (hz D' q1 q2)⟩
  · exact h
theorem wpM_undo : ∀ (as : List Value) (D : am_D) (L : am_L) (K : am_K), spM_undo as D L K → am_fit 2 as = true ∧ am_Wp false 0 cdM_undo fnM_undo K 0 (am_lo 2 as) [] D L := by
  intro as D L K h
  unfold spM_undo at h
  split at h
  · rename_i x
    obtain ⟨v, hv, hi, hK⟩ := h
    refine ⟨rfl, am_Wp_bl mfM_undo [] 60 _ _ _ _ _ ?_⟩
    (repeat ((conv => whnf); (first | refine zo0 ?_ | refine zo1 ?_ | refine br_z ?_ | refine br_o ?_ | refine br_zn ?_ | refine br_on ?_ | refine nz2 ?_ | refine nz6 ?_ | refine nz32 ?_ | refine And.intro (by assumption) ?_))); (conv => whnf)
    refine ⟨fun hx => ?_, fun hx => ?_⟩
    · obtain ⟨t, ht, et⟩ := rg_nI (n := 2) (by decide) hx
      subst et
      have in3 : vp_in (nI t) 3 := vp_in_nI (by omega) (by decide)
      have ct : (nI t).toNatClampNeg = t := nI_clamp (by omega)
      obtain ⟨e0, e1⟩ := vok_len hv (show t < 3 by omega)
      have e2 := vcap_le t
      have e50 : D 50 t = nI (vn v 0 t) := (hi.1 t (by omega)).trans e0
      have n0 : nI (vn v 0 t) = 0 ↔ vn v 0 t = 0 := by rw [← nI_0, nI_eq (by omega) (by omega)]
      (repeat ((conv => whnf); (first | refine zo0 ?_ | refine zo1 ?_ | refine br_z ?_ | refine br_o ?_ | refine br_zn ?_ | refine br_on ?_ | refine nz2 ?_ | refine nz6 ?_ | refine nz32 ?_ | refine And.intro (by assumption) ?_))); (conv => whnf)
      rw [ct, e50, n0]
      refine ⟨fun h2 => ?_, fun h2 => ?_⟩
      · (repeat ((conv => whnf); (first | refine zo0 ?_ | refine zo1 ?_ | refine br_z ?_ | refine br_o ?_ | refine br_zn ?_ | refine br_on ?_ | refine nz2 ?_ | refine nz6 ?_ | refine nz32 ?_ | refine And.intro (by assumption) ?_))); (conv => whnf)
        rw [ct, e50, nI_sub1 (by omega), am_up_eq]
        have k := hK (am_up D 50 t (nI (vn v 0 t - 1))) (fo_up (by decide) (by decide) fo_rf)
        unfold gUndo qUndo at k
        rw [if_pos hx, if_pos hx, cN_nI (by omega), if_neg h2, if_neg h2] at k
        have u : upd (D 50) t (nI (vn v 0 t - 1)) t = nI (vn v 0 t - 1) := by simp [upd]
        rw [u]
        exact k (im_len hi (by omega))
      · (repeat ((conv => whnf); (first | refine zo0 ?_ | refine zo1 ?_ | refine br_z ?_ | refine br_o ?_ | refine br_zn ?_ | refine br_on ?_ | refine nz2 ?_ | refine nz6 ?_ | refine nz32 ?_ | refine And.intro (by assumption) ?_))); (conv => whnf)
        have k := hK D fo_rf
        unfold gUndo qUndo at k
        rw [if_pos hx, if_pos hx, cN_nI (by omega), if_pos h2, if_pos h2] at k
        exact k hi
    · (repeat ((conv => whnf); (first | refine zo0 ?_ | refine zo1 ?_ | refine br_z ?_ | refine br_o ?_ | refine br_zn ?_ | refine br_on ?_ | refine nz2 ?_ | refine nz6 ?_ | refine nz32 ?_ | refine And.intro (by assumption) ?_))); (conv => whnf)
      have k := hK D fo_rf
      unfold gUndo qUndo at k
      rw [if_neg hx, if_neg hx] at k
      exact k hi
  · exact absurd h id
theorem clM_undo (l : Launch) : ∀ (a : Nat) (ins : Instr) (b dd : Nat), csM_undo[a]? = some (ins, b, dd) → am_Call l yM_undo.cls 2 ins b dd (fnM_undo a) := by
  intro a ins b dd h
  match a, h with
  | 0, h => cases h; exact am_callS (okM_isText l) wcM_isText (am_m5 (i := 26) rfl rfl) wtM_isText inM (by decide +kernel) (by decide) (by decide)
  | k + 1, h => simp [csM_undo] at h
theorem okM_undo (l : Launch) : am_Ok l yM_undo prog_13_method_15_code 2 (some .int) 2 spM_undo := am_ok_of (by decide +kernel) flM_ok kiM_ok klM_ok ckM_undo (clM_undo l) wpM_undo
def fnM_type : Nat → am_Sp := fun a => match a with
  | 0 => spM_isText
  | 1 => spM_in
  | _ => am_no
theorem mfM_type : ∀ a, am_mono (fnM_type a) := fun a => match a with
  | 0 => moM_isText
  | 1 => moM_in
  | _ + 2 => am_no_mono
def spM_type : am_Sp := fun as D L K => match as with
  | [.ref 49, .int x, .int y] => ∃ v : vs_T, vok v ∧ im D v ∧ ∀ D', fo D D' → im D' (gType v x y) → K (some (.int (qType v x y))) D' L
  | _ => False
theorem moM_type : am_mono spM_type := by
  intro as D L K K' hK h
  unfold spM_type at h ⊢
  split at h
  · obtain ⟨z0, z1, z2, hz⟩ := h
    exact ⟨z0, z1, z2, fun D' q1 q2 => hK _ _ _ (hz D' q1 q2)⟩
  · exact h
theorem wpM_type : ∀ (as : List Value) (D : am_D) (L : am_L) (K : am_K), spM_type as D L K → am_fit 3 as = true ∧ am_Wp false 0 cdM_type fnM_type K 0 (am_lo 3 as) [] D L := by
  intro as D L K h
  unfold spM_type at h
  split at h
  · rename_i x y
    obtain ⟨v, hv, hi, hK⟩ := h
    refine ⟨rfl, am_Wp_bl mfM_type [] 90 _ _ _ _ _ ?_⟩
    (repeat ((conv => whnf); (first | refine zo0 ?_ | refine zo1 ?_ | refine br_z ?_ | refine br_o ?_ | refine br_zn ?_ | refine br_on ?_ | refine nz2 ?_ | refine nz6 ?_ | refine nz32 ?_ | refine And.intro (by assumption) ?_))); (conv => whnf)
    refine ⟨fun hx => ?_, fun hx => ?_⟩
    · (repeat ((conv => whnf); (first | refine zo0 ?_ | refine zo1 ?_ | refine br_z ?_ | refine br_o ?_ | refine br_zn ?_ | refine br_on ?_ | refine nz2 ?_ | refine nz6 ?_ | refine nz32 ?_ | refine And.intro (by assumption) ?_))); (conv => whnf)
      refine ⟨fun hy => ?_, fun hy => ?_⟩
      · obtain ⟨t, ht, et⟩ := rg_nI (n := 2) (by decide) hx
        subst et
        have in3 : vp_in (nI t) 3 := vp_in_nI (by omega) (by decide)
        have ct : (nI t).toNatClampNeg = t := nI_clamp (by omega)
        obtain ⟨e0, e1⟩ := vok_len hv (show t < 3 by omega)
        have e2 := vcap_le t
        have e50 : D 50 t = nI (vn v 0 t) := (hi.1 t (by omega)).trans e0
        have t2 : nI t = 2 ↔ t = 2 := by rw [show (2 : Int32) = nI 2 by decide +kernel, nI_eq (by omega) (by omega)]
        have e24 : (24 : Int32) * nI t + nI (vn v 0 t) = nI (24 * t + vn v 0 t) := by rw [show (24 : Int32) = nI 24 by decide +kernel, pk_mul, nI_add]
        have full : vn v 0 t = vcap t → K (some (.int (-4))) D L := fun h2 => by
          have k := hK D fo_rf
          unfold gType qType at k
          rw [if_pos hx, if_pos hx, if_pos hy, if_pos hy, cN_nI (by omega), if_pos h2, if_pos h2] at k
          exact k hi
        have room : ¬ vn v 0 t = vcap t → vp_in (nI (24 * t + vn v 0 t)) 72 ∧ K (some (.int (nI (vn v 0 t + 1)))) (am_up (am_up D 51 (24 * t + vn v 0 t) y) 50 t (nI (vn v 0 t + 1))) L := fun h2 => by
          have hb : 24 * t + vn v 0 t < 72 := by omega
          have k := hK (am_up (am_up D 51 (24 * t + vn v 0 t) y) 50 t (nI (vn v 0 t + 1))) (fo_up (by decide) (by decide) (fo_up (by decide) (by decide) fo_rf))
          unfold gType qType at k
          rw [if_pos hx, if_pos hx, if_pos hy, if_pos hy, cN_nI (by omega), if_neg h2, if_neg h2] at k
          exact ⟨vp_in_nI hb (by decide), k (im_len (im_byte hi hb) (by omega))⟩
        (repeat ((conv => whnf); (first | refine zo0 ?_ | refine zo1 ?_ | refine br_z ?_ | refine br_o ?_ | refine br_zn ?_ | refine br_on ?_ | refine nz2 ?_ | refine nz6 ?_ | refine nz32 ?_ | refine And.intro (by assumption) ?_))); (conv => whnf)
        rw [t2]
        refine ⟨fun h2 => ?_, fun h2 => ?_⟩
        · have ev : vcap t = 12 := by unfold vcap; rw [Nat.blt_eq.mpr (show t < 2 by omega)]; rfl
          (repeat ((conv => whnf); (first | refine zo0 ?_ | refine zo1 ?_ | refine br_z ?_ | refine br_o ?_ | refine br_zn ?_ | refine br_on ?_ | refine nz2 ?_ | refine nz6 ?_ | refine nz32 ?_ | refine And.intro (by assumption) ?_))); (conv => whnf)
          rw [ct, e50, show (12 : Int32) = nI 12 by decide +kernel, nI_eq (by omega) (by omega)]
          refine ⟨fun h3 => ?_, fun h3 => ?_⟩
          · obtain ⟨i72, kk⟩ := room (by omega)
            (repeat ((conv => whnf); (first | refine zo0 ?_ | refine zo1 ?_ | refine br_z ?_ | refine br_o ?_ | refine br_zn ?_ | refine br_on ?_ | refine nz2 ?_ | refine nz6 ?_ | refine nz32 ?_ | refine And.intro (by assumption) ?_))); (conv => whnf)
            rw [ct, e50, e24]
            (repeat ((conv => whnf); (first | refine zo0 ?_ | refine zo1 ?_ | refine br_z ?_ | refine br_o ?_ | refine br_zn ?_ | refine br_on ?_ | refine nz2 ?_ | refine nz6 ?_ | refine nz32 ?_ | refine And.intro (by assumption) ?_))); (conv => whnf)
            rw [ct, nI_clamp (show 24 * t + vn v 0 t < 2 ^ 31 by omega), ap_s, am_up_ne (by decide), e50, nI_1]
            exact kk
          · (repeat ((conv => whnf); (first | refine zo0 ?_ | refine zo1 ?_ | refine br_z ?_ | refine br_o ?_ | refine br_zn ?_ | refine br_on ?_ | refine nz2 ?_ | refine nz6 ?_ | refine nz32 ?_ | refine And.intro (by assumption) ?_))); (conv => whnf)
            exact full (by omega)
        · have ev : vcap t = 24 := by unfold vcap; rw [h2]; rfl
          (repeat ((conv => whnf); (first | refine zo0 ?_ | refine zo1 ?_ | refine br_z ?_ | refine br_o ?_ | refine br_zn ?_ | refine br_on ?_ | refine nz2 ?_ | refine nz6 ?_ | refine nz32 ?_ | refine And.intro (by assumption) ?_))); (conv => whnf)
          rw [ct, e50, show (24 : Int32) = nI 24 by decide +kernel, nI_eq (by omega) (by omega)]
          refine ⟨fun h3 => ?_, fun h3 => ?_⟩
          · obtain ⟨i72, kk⟩ := room (by omega)
            (repeat ((conv => whnf); (first | refine zo0 ?_ | refine zo1 ?_ | refine br_z ?_ | refine br_o ?_ | refine br_zn ?_ | refine br_on ?_ | refine nz2 ?_ | refine nz6 ?_ | refine nz32 ?_ | refine And.intro (by assumption) ?_))); (conv => whnf)
            rw [ct, e50, e24]
            (repeat ((conv => whnf); (first | refine zo0 ?_ | refine zo1 ?_ | refine br_z ?_ | refine br_o ?_ | refine br_zn ?_ | refine br_on ?_ | refine nz2 ?_ | refine nz6 ?_ | refine nz32 ?_ | refine And.intro (by assumption) ?_))); (conv => whnf)
            rw [ct, nI_clamp (show 24 * t + vn v 0 t < 2 ^ 31 by omega), ap_s, am_up_ne (by decide), e50, nI_1]
            exact kk
          · (repeat ((conv => whnf); (first | refine zo0 ?_ | refine zo1 ?_ | refine br_z ?_ | refine br_o ?_ | refine br_zn ?_ | refine br_on ?_ | refine nz2 ?_ | refine nz6 ?_ | refine nz32 ?_ | refine And.intro (by assumption) ?_))); (conv => whnf)
            exact full (by omega)
      · (repeat ((conv => whnf); (first | refine zo0 ?_ | refine zo1 ?_ | refine br_z ?_ | refine br_o ?_ | refine br_zn ?_ | refine br_on ?_ | refine nz2 ?_ | refine nz6 ?_ | refine nz32 ?_ | refine And.intro (by assumption) ?_))); (conv => whnf)
        have k := hK D fo_rf
        unfold gType qType at k
        rw [if_pos hx, if_pos hx, if_neg hy, if_neg hy] at k
        exact k hi
    · (repeat ((conv => whnf); (first | refine zo0 ?_ | refine zo1 ?_ | refine br_z ?_ | refine br_o ?_ | refine br_zn ?_ | refine br_on ?_ | refine nz2 ?_ | refine nz6 ?_ | refine nz32 ?_ | refine And.intro (by assumption) ?_))); (conv => whnf)
      have k := hK D fo_rf
      unfold gType qType at k
      rw [if_neg hx, if_neg hx] at k
      exact k hi
  · exact absurd h id
theorem clM_type (l : Launch) : ∀ (a : Nat) (ins : Instr) (b dd : Nat), csM_type[a]? = some (ins, b, dd) → am_Call l yM_type.cls 2 ins b dd (fnM_type a) := by
  intro a ins b dd h
  match a, h with
  | 0, h => cases h; exact am_callS (okM_isText l) wcM_isText (am_m5 (i := 26) rfl rfl) wtM_isText inM (by decide +kernel) (by decide) (by decide)
  | 1, h => cases h; exact am_callS (okM_in l) wcM_in (am_m5 (i := 29) rfl rfl) wtM_in inM (by decide +kernel) (by decide) (by decide)
  | k + 2, h => simp [csM_type] at h
theorem okM_type (l : Launch) : am_Ok l yM_type prog_13_method_13_code 3 (some .int) 2 spM_type := am_ok_of (by decide +kernel) flM_ok kiM_ok klM_ok ckM_type (clM_type l) wpM_type
