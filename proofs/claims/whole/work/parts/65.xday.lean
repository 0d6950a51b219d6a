def fnY_begin : Nat → am_Sp := fun a => match a with
  | 0 => spJ_fill
  | _ => am_no
theorem mfY_begin : ∀ a, am_mono (fnY_begin a) := fun a => match a with
  | 0 => moJ_fill
  | _ + 1 => am_no_mono
def spY_begin : am_Sp := am_ini cdY_begin fnY_begin 11 1
theorem moY_begin : am_mono spY_begin := am_ini_mono mfY_begin
theorem wpY_begin : ∀ (as : List Value) (D : am_D) (L : am_L) (K : am_K), spY_begin as D L K → am_fit 1 as = true ∧ am_Wp false 0 cdY_begin fnY_begin K 0 (am_lo 1 as) [] D L := am_ini_Wp mfY_begin
theorem clY_begin (l : Launch) : ∀ (a : Nat) (ins : Instr) (b dd : Nat), csY_begin[a]? = some (ins, b, dd) → am_Call l yY_begin.cls 1 ins b dd (fnY_begin a) := by
  intro a ins b dd h
  match a, h with
  | 0, h => cases h; exact am_callS (okJ_fill l) wcJ_fill (am_m3 (i := 19) rfl rfl) wtJ_fill inJA (by decide +kernel) (by decide) (by decide)
  | k + 1, h => simp [csY_begin] at h
theorem okY_begin (l : Launch) : am_Ok l yY_begin prog_4_method_2_code 1 none 1 spY_begin := am_ok_of (by decide +kernel) flY_ok kiY_ok klY_ok ckY_begin (clY_begin l) wpY_begin
def fnY_end : Nat → am_Sp := fun a => match a with
  | 0 => spW_lacking
  | _ => am_no
theorem mfY_end : ∀ a, am_mono (fnY_end a) := fun a => match a with
  | 0 => moW_lacking
  | _ + 1 => am_no_mono
def spY_end : am_Sp := fun as D L K => match as with
  | [.ref 27, .ref 22, .ref 14] => ∃ (P w : mw_T) (g : Int32) (t : Nat), mw_pok P ∧ mw_ok P t w ∧ px D 14 P ∧ wx D w g ∧ ∀ D', (∀ k, k ≠ 27 → k ≠ 31 → D' k = D k) → (∀ j, j ≠ 5 → j ≠ 6 → D' 27 j = D 27 j) → D' 27 5 = mw_lk P w 12 → D' 27 6 = 1 → (D' 31 0 = nI (w 0 8) ∧ D' 31 1 = nI (w 0 9) ∧ D' 31 2 = nI (w 0 10) ∧ D' 31 3 = nI (w 0 11) ∧ D' 31 4 = nI (w 0 2)) → K none D' L
  | _ => False
theorem moY_end : am_mono spY_end := by
  intro as D L K K' hK h
  unfold spY_end at h ⊢
  split at h
  · obtain ⟨z0, z1, z2, z3, z4, z5, z6, z7, hz⟩ := h
    exact ⟨z0, z1, z2, z3, z4, z5, z6, z7, fun D' q1 q2 q3 q4 q5 => hK _ _ _ (hz D' q1 q2 q3 q4 q5)⟩
  · exact h
theorem wpY_end : ∀ (as : List Value) (D : am_D) (L : am_L) (K : am_K), spY_end as D L K → am_fit 3 as = true ∧ am_Wp false 0 cdY_end fnY_end K 0 (am_lo 3 as) [] D L := by
  intro as D L K h
  unfold spY_end at h
  split at h
  · obtain ⟨P, w, g, t, hP, hO, hpx, hw, hK⟩ := h
    have hw' := hw
    obtain ⟨aL, a4, a5, a6, a7, a8, a9, a10, a11, a13, a14, a15, a16⟩ := hw'
    have i0 : vp_in (0 : Int32) 5 := by rw [show (0 : Int32) = nI 0 by decide +kernel]; exact vp_in_nI (by decide) (by decide)
    have cl0 : (0 : Int32).toNatClampNeg = 0 := by decide +kernel
    have i1 : vp_in (1 : Int32) 5 := by rw [show (1 : Int32) = nI 1 by decide +kernel]; exact vp_in_nI (by decide) (by decide)
    have cl1 : (1 : Int32).toNatClampNeg = 1 := by decide +kernel
    have i2 : vp_in (2 : Int32) 5 := by rw [show (2 : Int32) = nI 2 by decide +kernel]; exact vp_in_nI (by decide) (by decide)
    have cl2 : (2 : Int32).toNatClampNeg = 2 := by decide +kernel
    have i3 : vp_in (3 : Int32) 5 := by rw [show (3 : Int32) = nI 3 by decide +kernel]; exact vp_in_nI (by decide) (by decide)
    have cl3 : (3 : Int32).toNatClampNeg = 3 := by decide +kernel
    have i4 : vp_in (4 : Int32) 5 := by rw [show (4 : Int32) = nI 4 by decide +kernel]; exact vp_in_nI (by decide) (by decide)
    have cl4 : (4 : Int32).toNatClampNeg = 4 := by decide +kernel
    refine ⟨rfl, am_Wp_bl mfY_end [] 60 _ _ _ _ _ ?_⟩
    (repeat ((conv => whnf); (first | refine zo0 ?_ | refine zo1 ?_ | refine br_z ?_ | refine br_o ?_ | refine br_zn ?_ | refine br_on ?_ | refine nz2 ?_ | refine nz6 ?_ | refine nz32 ?_ | refine And.intro (by assumption) ?_))); (conv => whnf)
    rw [cl0, cl1, cl2, cl3, cl4]
    obtain ⟨D1, hD1⟩ : ∃ D1, am_up (am_up (am_up (am_up (am_up D 31 0 (D 22 13)) 31 1 (am_up D 31 0 (D 22 13) 22 14)) 31 2 (am_up (am_up D 31 0 (D 22 13)) 31 1 (am_up D 31 0 (D 22 13) 22 14) 22 15)) 31 3 (am_up (am_up (am_up D 31 0 (D 22 13)) 31 1 (am_up D 31 0 (D 22 13) 22 14)) 31 2 (am_up (am_up D 31 0 (D 22 13)) 31 1 (am_up D 31 0 (D 22 13) 22 14) 22 15) 22 16)) 31 4 (am_up (am_up (am_up (am_up D 31 0 (D 22 13)) 31 1 (am_up D 31 0 (D 22 13) 22 14)) 31 2 (am_up (am_up D 31 0 (D 22 13)) 31 1 (am_up D 31 0 (D 22 13) 22 14) 22 15)) 31 3 (am_up (am_up (am_up D 31 0 (D 22 13)) 31 1 (am_up D 31 0 (D 22 13) 22 14)) 31 2 (am_up (am_up D 31 0 (D 22 13)) 31 1 (am_up D 31 0 (D 22 13) 22 14) 22 15) 22 16) 22 6) = D1 := ⟨_, rfl⟩
    rw [hD1]
    have f1 : ∀ k, k ≠ 31 → D1 k = D k := fun k hk => by rw [← hD1, am_up_ne hk, am_up_ne hk, am_up_ne hk, am_up_ne hk, am_up_ne hk]
    have s1 : D1 31 0 = nI (w 0 8) ∧ D1 31 1 = nI (w 0 9) ∧ D1 31 2 = nI (w 0 10) ∧ D1 31 3 = nI (w 0 11) ∧ D1 31 4 = nI (w 0 2) := by
      rw [← hD1]
      refine ⟨?_, ?_, ?_, ?_, ?_⟩ <;> simp [ap, a13, a14, a15, a16, a6]
    refine ⟨P, w, g, t, Or.inl rfl, hP, hO, px_fr hpx (f1 _ (by decide)) (f1 _ (by decide)) (f1 _ (by decide)) (f1 _ (by decide)), wx_fr hw (f1 _ (by decide)) (f1 _ (by decide)) (f1 _ (by decide)) (f1 _ (by decide)), ?_⟩
    (repeat ((conv => whnf); (first | refine zo0 ?_ | refine zo1 ?_ | refine br_z ?_ | refine br_o ?_ | refine br_zn ?_ | refine br_on ?_ | refine nz2 ?_ | refine nz6 ?_ | refine nz32 ?_ | refine And.intro (by assumption) ?_))); (conv => whnf)
    refine hK _ (fun k h1 h2 => ?_) (fun j h5 h6 => ?_) ?_ ?_ ?_
    · rw [am_up_ne h1, am_up_ne h1, f1 k h2]
    · rw [ap, if_pos rfl, if_neg h6, ap, if_pos rfl, if_neg h5, f1 27 (by decide)]
    · simp [ap]
    · simp [ap]
    · rw [am_up_ne (by decide), am_up_ne (by decide)]
      exact s1
  · exact absurd h id
theorem clY_end (l : Launch) : ∀ (a : Nat) (ins : Instr) (b dd : Nat), csY_end[a]? = some (ins, b, dd) → am_Call l yY_end.cls 1 ins b dd (fnY_end a) := by
  intro a ins b dd h
  match a, h with
  | 0, h => cases h; exact am_callV (T := F_9) (N := 17) (okW_lacking l) wcW_lacking (am_m3 (i := 90) rfl rfl) wiW_lacking wsW_lacking inW rfl (by decide) (by decide +kernel) (by decide) (by decide)
  | k + 1, h => simp [csY_end] at h
theorem okY_end (l : Launch) : am_Ok l yY_end prog_4_method_4_code 3 none 1 spY_end := am_ok_of (by decide +kernel) flY_ok kiY_ok klY_ok ckY_end (clY_end l) wpY_end
def fnX_learnDay : Nat → am_Sp := fun a => match a with
  | 0 => spY_begin
  | 1 => spW_run
  | 2 => spY_end
  | _ => am_no
theorem mfX_learnDay : ∀ a, am_mono (fnX_learnDay a) := fun a => match a with
  | 0 => moY_begin
  | 1 => moW_run
  | 2 => moY_end
  | _ + 3 => am_no_mono
def spX_learnDay : am_Sp := fun as D L K => match as with
  | [.ref 0] => ∃ v : vs_T, vok v ∧ ix D v ∧ ∀ D', fc D D' → ix D' v → dayok D' (vpl v) (vev v) → K none D' L
  | _ => False
theorem moX_learnDay : am_mono spX_learnDay := by
  intro as D L K K' hK h
  unfold spX_learnDay at h ⊢
  split at h
  · obtain ⟨z0, z1, z2, hz⟩ := h
    exact ⟨z0, z1, z2, fun D' q1 q2 q3 => hK _ _ _ (hz D' q1 q2 q3)⟩
  · exact h
theorem wpX_learnDay : ∀ (as : List Value) (D : am_D) (L : am_L) (K : am_K), spX_learnDay as D L K → am_fit 1 as = true ∧ am_Wp false 0 cdX_learnDay fnX_learnDay K 0 (am_lo 1 as) [] D L := by
  intro as D L K h
  unfold spX_learnDay at h
  split at h
  · obtain ⟨v, hv, hi, hK⟩ := h
    have hP := vpl_ok hv
    have hE := vev_ok hv
    obtain ⟨hib, ⟨c1, c2, c3, c4, c5, c6⟩, hw⟩ := hi
    have hi : ix D v := ⟨hib, ⟨c1, c2, c3, c4, c5, c6⟩, hw⟩
    refine ⟨rfl, am_Wp_bl mfX_learnDay [] 60 _ _ _ _ _ ?_⟩
    (repeat ((conv => whnf); (first | refine zo0 ?_ | refine zo1 ?_ | refine br_z ?_ | refine br_o ?_ | refine br_zn ?_ | refine br_on ?_ | refine nz2 ?_ | refine nz6 ?_ | refine nz32 ?_ | refine And.intro (by assumption) ?_))); (conv => whnf)
    refine ⟨fun h0 => ?_, fun h0 => ?_⟩
    rotate_left
    · (repeat ((conv => whnf); (first | refine zo0 ?_ | refine zo1 ?_ | refine br_z ?_ | refine br_o ?_ | refine br_zn ?_ | refine br_on ?_ | refine nz2 ?_ | refine nz6 ?_ | refine nz32 ?_ | refine And.intro (by assumption) ?_))); (conv => whnf)
      rcases c1 with q | q
      · exact absurd q h0
      · exact hK D fc_rf hi q.2
    (repeat ((conv => whnf); (first | refine zo0 ?_ | refine zo1 ?_ | refine br_z ?_ | refine br_o ?_ | refine br_zn ?_ | refine br_on ?_ | refine nz2 ?_ | refine nz6 ?_ | refine nz32 ?_ | refine And.intro (by assumption) ?_))); (conv => whnf)
    refine ⟨rfl, by decide, ?_⟩
    (repeat ((conv => whnf); (first | refine zo0 ?_ | refine zo1 ?_ | refine br_z ?_ | refine br_o ?_ | refine br_zn ?_ | refine br_on ?_ | refine nz2 ?_ | refine nz6 ?_ | refine nz32 ?_ | refine And.intro (by assumption) ?_))); (conv => whnf)
    obtain ⟨D1, hD1⟩ : ∃ D1, am_up (am_upA D 30 (fun j => if j < am_len 30 then -1 else D 30 j)) 27 4 (-1) = D1 := ⟨_, rfl⟩
    rw [hD1]
    have f1 : ∀ k, k ≠ 27 → k ≠ 30 → D1 k = D k := fun k h1 h2 => by rw [← hD1, am_up_ne h1]; simp [am_upA, h2]
    have d1 : ∀ d, d < 12 → D1 30 d = -1 := fun d hd => by rw [← hD1, am_up_ne (by decide)]; simp [am_upA, ln_30, hd]
    have o1 : D1 27 4 = -1 := by rw [← hD1]; simp [ap]
    refine ⟨vpl v, vev v, allp, rfl, hP, hE, px_fr hib.2.1.1 (f1 _ (by decide) (by decide)) (f1 _ (by decide) (by decide)) (f1 _ (by decide) (by decide)) (f1 _ (by decide) (by decide)), ex_fr (ex_ie hib.2.2.1 hv) (f1 _ (by decide) (by decide)) (f1 _ (by decide) (by decide)) (f1 _ (by decide) (by decide)) (f1 _ (by decide) (by decide)), by rw [f1 14 (by decide) (by decide), hib.2.1.2]; exact prx_0, iw_fr hw (fun k _ _ => f1 k (by omega) (by omega)), d1, o1, fun D2 g f2 z2 w2 t2 y2 => ?_⟩
    (repeat ((conv => whnf); (first | refine zo0 ?_ | refine zo1 ?_ | refine br_z ?_ | refine br_o ?_ | refine br_zn ?_ | refine br_on ?_ | refine nz2 ?_ | refine nz6 ?_ | refine nz32 ?_ | refine And.intro (by assumption) ?_))); (conv => whnf)
    refine ⟨vpl v, mw_run (vpl v) (vev v) allp 48, g, 48, hP, mw_run_ok hP hE 48, ?_, w2, fun D3 f3 z3 l3 k3 s3 => ?_⟩
    · exact px_fr hib.2.1.1 ((f2 14 (by omega)).trans (f1 _ (by decide) (by decide))) ((f2 15 (by omega)).trans (f1 _ (by decide) (by decide))) ((f2 16 (by omega)).trans (f1 _ (by decide) (by decide))) ((f2 17 (by omega)).trans (f1 _ (by decide) (by decide)))
    have fa : ∀ k, k < 22 ∨ 31 < k → D3 k = D k := fun k hk => (f3 k (by omega) (by omega)).trans ((f2 k (by omega)).trans (f1 k (by omega) (by omega)))
    have dk : dayok D3 (vpl v) (vev v) := by
      refine ⟨?_, s3, l3⟩
      unfold yrec at y2 ⊢
      rw [f3 28 (by decide) (by decide), f3 29 (by decide) (by decide), f3 30 (by decide) (by decide), z3 4 (by decide) (by decide)]
      exact y2
    (repeat ((conv => whnf); (first | refine zo0 ?_ | refine zo1 ?_ | refine br_z ?_ | refine br_o ?_ | refine br_zn ?_ | refine br_on ?_ | refine nz2 ?_ | refine nz6 ?_ | refine nz32 ?_ | refine And.intro (by assumption) ?_))); (conv => whnf)
    refine hK D3 (fun k hk => fa k (by omega)) ⟨ib_fr hib (fun k hk => fa k (by omega)), ⟨Or.inr ⟨k3, dk⟩, ich_fr c2 (fa _ (by omega)), icr_fr c3 (fa _ (by omega)), ics_fr c4 (fa _ (by omega)), icp_fr c5 (fa _ (by omega)), icc_fr c6 (fa _ (by omega)) (fa _ (by omega))⟩, ⟨_, g, wx_fr w2 (f3 _ (by decide) (by decide)) (f3 _ (by decide) (by decide)) (f3 _ (by decide) (by decide)) (f3 _ (by decide) (by decide))⟩⟩ dk
  · exact absurd h id
theorem clX_learnDay (l : Launch) : ∀ (a : Nat) (ins : Instr) (b dd : Nat), csX_learnDay[a]? = some (ins, b, dd) → am_Call l yX_learnDay.cls 4 ins b dd (fnX_learnDay a) := by
  intro a ins b dd h
  match a, h with
  | 0, h => cases h; exact am_callV (T := F_2) (N := 7) (okY_begin l) wcY_begin (am_m3 (i := 15) rfl rfl) wiY_begin wsY_begin inY rfl (by decide) (by decide +kernel) (by decide) (by decide)
  | 1, h => cases h; exact am_callV (T := F_9) (N := 17) (okW_run l) wcW_run (am_m3 (i := 22) rfl rfl) wiW_run wsW_run inW rfl (by decide) (by decide +kernel) (by decide) (by decide)
  | 2, h => cases h; exact am_callV (T := F_2) (N := 7) (okY_end l) wcY_end (am_m3 (i := 86) rfl rfl) wiY_end wsY_end inY rfl (by decide) (by decide +kernel) (by decide) (by decide)
  | k + 3, h => simp [csX_learnDay] at h
theorem okX_learnDay (l : Launch) : am_Ok l yX_learnDay prog_1_method_49_code 1 none 4 spX_learnDay := am_ok_of (by decide +kernel) flX_ok kiX_ok klX_ok ckX_learnDay (clX_learnDay l) wpX_learnDay
def fnX_at : Nat → am_Sp := fun a => match a with
  | 0 => spX_isMinute
  | 1 => spX_learnDay
  | _ => am_no
theorem mfX_at : ∀ a, am_mono (fnX_at a) := fun a => match a with
  | 0 => moX_isMinute
  | 1 => moX_learnDay
  | _ + 2 => am_no_mono
def spX_at : am_Sp := fun as D L K => match as with
  | [.ref 0, .int x, .int y] => ∃ v : vs_T, vok v ∧ ix D v ∧ ∀ (D' : am_D) (L' : am_L), fc D D' → ix D' v → K (some (.int (qAt v x y))) D' L'
  | _ => False
theorem moX_at : am_mono spX_at := by
  intro as D L K K' hK h
  unfold spX_at at h ⊢
  split at h
  · obtain ⟨z0, z1, z2, hz⟩ := h
    exact ⟨z0, z1, z2, fun D' L' q1 q2 => hK _ _ _ (hz D' L' q1 q2)⟩
  · exact h
theorem wpX_at : ∀ (as : List Value) (D : am_D) (L : am_L) (K : am_K), spX_at as D L K → am_fit 3 as = true ∧ am_Wp false 0 cdX_at fnX_at K 0 (am_lo 3 as) [] D L := by
  intro as D L K h
  unfold spX_at at h
  split at h
  · rename_i x y
    obtain ⟨v, hv, hi, hK⟩ := h
    have kb : ¬ ((0 ≤ x ∧ x ≤ 47) ∧ (0 ≤ y ∧ y ≤ 4)) → K (some (.int (-2))) D L := fun q => by
      have k := hK D L fc_rf
      unfold qAt at k
      by_cases c0 : (0 ≤ x ∧ x ≤ 47)
      · by_cases c1 : (0 ≤ y ∧ y ≤ 4)
        · exact absurd ⟨c0, c1⟩ q
        · rw [if_pos c0, if_neg c1] at k
          exact k hi
      · rw [if_neg c0] at k
        exact k hi
    refine ⟨rfl, am_Wp_bl mfX_at [] 90 _ _ _ _ _ ?_⟩
    (repeat ((conv => whnf); (first | refine zo0 ?_ | refine zo1 ?_ | refine br_z ?_ | refine br_o ?_ | refine br_zn ?_ | refine br_on ?_ | refine nz2 ?_ | refine nz6 ?_ | refine nz32 ?_ | refine And.intro (by assumption) ?_))); (conv => whnf)
    refine ⟨fun hmx => ?_, fun hmx => ?_⟩
    rotate_left
    · (repeat ((conv => whnf); (first | refine zo0 ?_ | refine zo1 ?_ | refine br_z ?_ | refine br_o ?_ | refine br_zn ?_ | refine br_on ?_ | refine nz2 ?_ | refine nz6 ?_ | refine nz32 ?_ | refine And.intro (by assumption) ?_))); (conv => whnf)
      exact kb (fun q => hmx (ism_iff.mpr q.1))
    have hx := ism_iff.mp hmx
    (repeat ((conv => whnf); (first | refine zo0 ?_ | refine zo1 ?_ | refine br_z ?_ | refine br_o ?_ | refine br_zn ?_ | refine br_on ?_ | refine nz2 ?_ | refine nz6 ?_ | refine nz32 ?_ | refine And.intro (by assumption) ?_))); (conv => whnf)
    refine ⟨fun h1y => ?_, fun h1y => ?_⟩
    · (repeat ((conv => whnf); (first | refine zo0 ?_ | refine zo1 ?_ | refine br_z ?_ | refine br_o ?_ | refine br_zn ?_ | refine br_on ?_ | refine nz2 ?_ | refine nz6 ?_ | refine nz32 ?_ | refine And.intro (by assumption) ?_))); (conv => whnf)
      exact kb (fun q => rn0 h1y q.2)
    (repeat ((conv => whnf); (first | refine zo0 ?_ | refine zo1 ?_ | refine br_z ?_ | refine br_o ?_ | refine br_zn ?_ | refine br_on ?_ | refine nz2 ?_ | refine nz6 ?_ | refine nz32 ?_ | refine And.intro (by assumption) ?_))); (conv => whnf)
    refine ⟨fun h2y => ?_, fun h2y => ?_⟩
    rotate_left
    · (repeat ((conv => whnf); (first | refine zo0 ?_ | refine zo1 ?_ | refine br_z ?_ | refine br_o ?_ | refine br_zn ?_ | refine br_on ?_ | refine nz2 ?_ | refine nz6 ?_ | refine nz32 ?_ | refine And.intro (by assumption) ?_))); (conv => whnf)
      exact kb (fun q => rn3 4 (Int32.not_lt.mp h2y) rfl (by omega) q.2)
    have hy : 0 ≤ y ∧ y ≤ 4 := rq3 4 h1y (fun q => Int32.not_lt.mpr q h2y)
    obtain ⟨t, ht, et⟩ := rg_nI (n := 47) (by decide) hx
    obtain ⟨c, hc, ec⟩ := rg_nI (n := 4) (by decide) hy
    subst et ec
    have e5 : nI t * 5 + nI c = nI (5 * t + c) := by rw [show (5 : Int32) = nI 5 by decide +kernel, pk_mul, nI_add, Nat.mul_comm]
    have i5 : vp_in (nI t * 5 + nI c) 240 := by rw [e5]; exact vp_in_nI (by omega) (by decide)
    have c5 : (nI t * 5 + nI c).toNatClampNeg = 5 * t + c := by rw [e5]; exact nI_clamp (by omega)
    (repeat ((conv => whnf); (first | refine zo0 ?_ | refine zo1 ?_ | refine br_z ?_ | refine br_o ?_ | refine br_zn ?_ | refine br_on ?_ | refine nz2 ?_ | refine nz6 ?_ | refine nz32 ?_ | refine And.intro (by assumption) ?_))); (conv => whnf)
    refine ⟨v, hv, hi, fun D1 f1 i1 d1 => ?_⟩
    have k := hK D1 L f1 i1
    unfold qAt at k
    rw [if_pos hx, if_pos hy, cN_nI (by omega), cN_nI (by omega)] at k
    have y := d1.1.1 t (by omega)
    (repeat ((conv => whnf); (first | refine zo0 ?_ | refine zo1 ?_ | refine br_z ?_ | refine br_o ?_ | refine br_zn ?_ | refine br_on ?_ | refine nz2 ?_ | refine nz6 ?_ | refine nz32 ?_ | refine And.intro (by assumption) ?_))); (conv => whnf)
    rw [c5]
    rcases (show c = 0 ∨ c = 1 ∨ c = 2 ∨ c = 3 ∨ c = 4 by omega) with rfl | rfl | rfl | rfl | rfl
    · rw [Nat.add_zero, y.1]; exact k
    · rw [y.2.1]; exact k
    · rw [y.2.2.1]; exact k
    · rw [y.2.2.2.1]; exact k
    · rw [y.2.2.2.2]; exact k
  · exact absurd h id
theorem clX_at (l : Launch) : ∀ (a : Nat) (ins : Instr) (b dd : Nat), csX_at[a]? = some (ins, b, dd) → am_Call l yX_at.cls 5 ins b dd (fnX_at a) := by
  intro a ins b dd h
  match a, h with
  | 0, h => cases h; exact am_callS (okX_isMinute l) wcX_isMinute (am_m3 (i := 10) rfl rfl) wtX_isMinute inX (by decide +kernel) (by decide) (by decide)
  | 1, h => cases h; exact am_callV (T := F_10) (N := 17) (okX_learnDay l) wcX_learnDay (am_m3 (i := 11) rfl rfl) wiX_learnDay wsX_learnDay inX rfl (by decide) (by decide +kernel) (by decide) (by decide)
  | k + 2, h => simp [csX_at] at h
theorem okX_at (l : Launch) : am_Ok l yX_at prog_1_method_12_code 3 (some .int) 5 spX_at := am_ok_of (by decide +kernel) flX_ok kiX_ok klX_ok ckX_at (clX_at l) wpX_at
def fnX_door : Nat → am_Sp := fun a => match a with
  | 0 => spX_isMinute
  | 1 => spX_isDoor
  | 2 => spX_learnDay
  | _ => am_no
theorem mfX_door : ∀ a, am_mono (fnX_door a) := fun a => match a with
  | 0 => moX_isMinute
  | 1 => moX_isDoor
  | 2 => moX_learnDay
  | _ + 3 => am_no_mono
def spX_door : am_Sp := fun as D L K => match as with
  | [.ref 0, .int x, .int y, .int z] => ∃ v : vs_T, vok v ∧ ix D v ∧ ∀ (D' : am_D) (L' : am_L), fc D D' → ix D' v → K (some (.int (qDoor v x y z))) D' L'
  | _ => False
theorem moX_door : am_mono spX_door := by
  intro as D L K K' hK h
  unfold spX_door at h ⊢
  split at h
  · obtain ⟨z0, z1, z2, hz⟩ := h
    exact ⟨z0, z1, z2, fun D' L' q1 q2 => hK _ _ _ (hz D' L' q1 q2)⟩
  · exact h
theorem wpX_door : ∀ (as : List Value) (D : am_D) (L : am_L) (K : am_K), spX_door as D L K → am_fit 4 as = true ∧ am_Wp false 0 cdX_door fnX_door K 0 (am_lo 4 as) [] D L := by
  intro as D L K h
  unfold spX_door at h
  split at h
  · rename_i x y z
    obtain ⟨v, hv, hi, hK⟩ := h
    have kb : ¬ ((0 ≤ x ∧ x ≤ 47) ∧ (0 ≤ y ∧ y ≤ 11) ∧ (0 ≤ z ∧ z ≤ 2)) → K (some (.int (-2))) D L := fun q => by
      have k := hK D L fc_rf
      unfold qDoor at k
      by_cases c0 : (0 ≤ x ∧ x ≤ 47)
      · by_cases c1 : (0 ≤ y ∧ y ≤ 11)
        · by_cases c2 : (0 ≤ z ∧ z ≤ 2)
          · exact absurd ⟨c0, c1, c2⟩ q
          · rw [if_pos c0, if_pos c1, if_neg c2] at k
            exact k hi
        · rw [if_pos c0, if_neg c1] at k
          exact k hi
      · rw [if_neg c0] at k
        exact k hi
    refine ⟨rfl, am_Wp_bl mfX_door [] 90 _ _ _ _ _ ?_⟩
    (repeat ((conv => whnf); (first | refine zo0 ?_ | refine zo1 ?_ | refine br_z ?_ | refine br_o ?_ | refine br_zn ?_ | refine br_on ?_ | refine nz2 ?_ | refine nz6 ?_ | refine nz32 ?_ | refine And.intro (by assumption) ?_))); (conv => whnf)
    refine ⟨fun hmx => ?_, fun hmx => ?_⟩
    rotate_left
    · (repeat ((conv => whnf); (first | refine zo0 ?_ | refine zo1 ?_ | refine br_z ?_ | refine br_o ?_ | refine br_zn ?_ | refine br_on ?_ | refine nz2 ?_ | refine nz6 ?_ | refine nz32 ?_ | refine And.intro (by assumption) ?_))); (conv => whnf)
      exact kb (fun q => hmx (ism_iff.mpr q.1))
    have hx := ism_iff.mp hmx
    (repeat ((conv => whnf); (first | refine zo0 ?_ | refine zo1 ?_ | refine br_z ?_ | refine br_o ?_ | refine br_zn ?_ | refine br_on ?_ | refine nz2 ?_ | refine nz6 ?_ | refine nz32 ?_ | refine And.intro (by assumption) ?_))); (conv => whnf)
    refine ⟨fun hmy => ?_, fun hmy => ?_⟩
    rotate_left
    · (repeat ((conv => whnf); (first | refine zo0 ?_ | refine zo1 ?_ | refine br_z ?_ | refine br_o ?_ | refine br_zn ?_ | refine br_on ?_ | refine nz2 ?_ | refine nz6 ?_ | refine nz32 ?_ | refine And.intro (by assumption) ?_))); (conv => whnf)
      exact kb (fun q => hmy (isd_iff.mpr q.2.1))
    have hy := isd_iff.mp hmy
    (repeat ((conv => whnf); (first | refine zo0 ?_ | refine zo1 ?_ | refine br_z ?_ | refine br_o ?_ | refine br_zn ?_ | refine br_on ?_ | refine nz2 ?_ | refine nz6 ?_ | refine nz32 ?_ | refine And.intro (by assumption) ?_))); (conv => whnf)
    refine ⟨fun h1z => ?_, fun h1z => ?_⟩
    · (repeat ((conv => whnf); (first | refine zo0 ?_ | refine zo1 ?_ | refine br_z ?_ | refine br_o ?_ | refine br_zn ?_ | refine br_on ?_ | refine nz2 ?_ | refine nz6 ?_ | refine nz32 ?_ | refine And.intro (by assumption) ?_))); (conv => whnf)
      exact kb (fun q => rn0 h1z q.2.2)
    (repeat ((conv => whnf); (first | refine zo0 ?_ | refine zo1 ?_ | refine br_z ?_ | refine br_o ?_ | refine br_zn ?_ | refine br_on ?_ | refine nz2 ?_ | refine nz6 ?_ | refine nz32 ?_ | refine And.intro (by assumption) ?_))); (conv => whnf)
    refine ⟨fun h2z => ?_, fun h2z => ?_⟩
    rotate_left
    · (repeat ((conv => whnf); (first | refine zo0 ?_ | refine zo1 ?_ | refine br_z ?_ | refine br_o ?_ | refine br_zn ?_ | refine br_on ?_ | refine nz2 ?_ | refine nz6 ?_ | refine nz32 ?_ | refine And.intro (by assumption) ?_))); (conv => whnf)
      exact kb (fun q => rn3 2 (Int32.not_lt.mp h2z) rfl (by omega) q.2.2)
    have hz : 0 ≤ z ∧ z ≤ 2 := rq3 2 h1z (fun q => Int32.not_lt.mpr q h2z)
    obtain ⟨t, ht, et⟩ := rg_nI (n := 47) (by decide) hx
    obtain ⟨d, hd, ed⟩ := rg_nI (n := 11) (by decide) hy
    obtain ⟨c, hc, ec⟩ := rg_nI (n := 2) (by decide) hz
    subst et ec ed
    have e5 : (nI t * 12 + nI d) * 3 + nI c = nI (36 * t + 3 * d + c) := by
      rw [show (12 : Int32) = nI 12 by decide +kernel, show (3 : Int32) = nI 3 by decide +kernel, pk_mul, nI_add, pk_mul, nI_add]
      congr 1
      omega
    have i5 : vp_in ((nI t * 12 + nI d) * 3 + nI c) 1728 := by rw [e5]; exact vp_in_nI (by omega) (by decide)
    have c5 : ((nI t * 12 + nI d) * 3 + nI c).toNatClampNeg = 36 * t + 3 * d + c := by rw [e5]; exact nI_clamp (by omega)
    (repeat ((conv => whnf); (first | refine zo0 ?_ | refine zo1 ?_ | refine br_z ?_ | refine br_o ?_ | refine br_zn ?_ | refine br_on ?_ | refine nz2 ?_ | refine nz6 ?_ | refine nz32 ?_ | refine And.intro (by assumption) ?_))); (conv => whnf)
    refine ⟨v, hv, hi, fun D1 f1 i1 d1 => ?_⟩
    have k := hK D1 L f1 i1
    unfold qDoor at k
    rw [if_pos hx, if_pos hy, if_pos hz, cN_nI (by omega), cN_nI (by omega), cN_nI (by omega)] at k
    have y := d1.1.2.1 t (by omega) d (by omega)
    (repeat ((conv => whnf); (first | refine zo0 ?_ | refine zo1 ?_ | refine br_z ?_ | refine br_o ?_ | refine br_zn ?_ | refine br_on ?_ | refine nz2 ?_ | refine nz6 ?_ | refine nz32 ?_ | refine And.intro (by assumption) ?_))); (conv => whnf)
    rw [c5]
    rcases (show c = 0 ∨ c = 1 ∨ c = 2 by omega) with rfl | rfl | rfl
    · rw [Nat.add_zero, y.1]; exact k
    · rw [y.2.1]; exact k
    · rw [y.2.2]; exact k
  · exact absurd h id
theorem clX_door (l : Launch) : ∀ (a : Nat) (ins : Instr) (b dd : Nat), csX_door[a]? = some (ins, b, dd) → am_Call l yX_door.cls 5 ins b dd (fnX_door a) := by
  intro a ins b dd h
  match a, h with
  | 0, h => cases h; exact am_callS (okX_isMinute l) wcX_isMinute (am_m3 (i := 10) rfl rfl) wtX_isMinute inX (by decide +kernel) (by decide) (by decide)
  | 1, h => cases h; exact am_callS (okX_isDoor l) wcX_isDoor (am_m2 (i := 199) rfl rfl) wtX_isDoor inX (by decide +kernel) (by decide) (by decide)
  | 2, h => cases h; exact am_callV (T := F_10) (N := 17) (okX_learnDay l) wcX_learnDay (am_m3 (i := 11) rfl rfl) wiX_learnDay wsX_learnDay inX rfl (by decide) (by decide +kernel) (by decide) (by decide)
  | k + 3, h => simp [csX_door] at h
theorem okX_door (l : Launch) : am_Ok l yX_door prog_1_method_13_code 4 (some .int) 5 spX_door := am_ok_of (by decide +kernel) flX_ok kiX_ok klX_ok ckX_door (clX_door l) wpX_door
def fnX_done : Nat → am_Sp := fun a => match a with
  | 0 => spX_isDoor
  | 1 => spX_learnDay
  | _ => am_no
theorem mfX_done : ∀ a, am_mono (fnX_done a) := fun a => match a with
  | 0 => moX_isDoor
  | 1 => moX_learnDay
  | _ + 2 => am_no_mono
def spX_done : am_Sp := fun as D L K => match as with
  | [.ref 0, .int x] => ∃ v : vs_T, vok v ∧ ix D v ∧ ∀ (D' : am_D) (L' : am_L), fc D D' → ix D' v → K (some (.int (qDone v x))) D' L'
  | _ => False
theorem moX_done : am_mono spX_done := by
  intro as D L K K' hK h
  unfold spX_done at h ⊢
  split at h
  · obtain ⟨z0, z1, z2, hz⟩ := h
    exact ⟨z0, z1, z2, fun D' L' q1 q2 => hK _ _ _ (hz D' L' q1 q2)⟩
  · exact h
theorem wpX_done : ∀ (as : List Value) (D : am_D) (L : am_L) (K : am_K), spX_done as D L K → am_fit 2 as = true ∧ am_Wp false 0 cdX_done fnX_done K 0 (am_lo 2 as) [] D L := by
  intro as D L K h
  unfold spX_done at h
  split at h
  · rename_i x
    obtain ⟨v, hv, hi, hK⟩ := h
    have kb : ¬ ((0 ≤ x ∧ x ≤ 11)) → K (some (.int (-2))) D L := fun q => by
      have k := hK D L fc_rf
      unfold qDone at k
      by_cases c0 : (0 ≤ x ∧ x ≤ 11)
      · exact absurd c0 q
      · rw [if_neg c0] at k
        exact k hi
    refine ⟨rfl, am_Wp_bl mfX_done [] 90 _ _ _ _ _ ?_⟩
    (repeat ((conv => whnf); (first | refine zo0 ?_ | refine zo1 ?_ | refine br_z ?_ | refine br_o ?_ | refine br_zn ?_ | refine br_on ?_ | refine nz2 ?_ | refine nz6 ?_ | refine nz32 ?_ | refine And.intro (by assumption) ?_))); (conv => whnf)
    refine ⟨fun hmx => ?_, fun hmx => ?_⟩
    rotate_left
    · (repeat ((conv => whnf); (first | refine zo0 ?_ | refine zo1 ?_ | refine br_z ?_ | refine br_o ?_ | refine br_zn ?_ | refine br_on ?_ | refine nz2 ?_ | refine nz6 ?_ | refine nz32 ?_ | refine And.intro (by assumption) ?_))); (conv => whnf)
      exact kb (fun q => hmx (isd_iff.mpr q))
    have hx := isd_iff.mp hmx
    obtain ⟨d, hd, ed⟩ := rg_nI (n := 11) (by decide) hx
    subst ed
    have i5 : vp_in (nI d) 12 := vp_in_nI (by omega) (by decide)
    have c5 : (nI d).toNatClampNeg = d := nI_clamp (by omega)
    (repeat ((conv => whnf); (first | refine zo0 ?_ | refine zo1 ?_ | refine br_z ?_ | refine br_o ?_ | refine br_zn ?_ | refine br_on ?_ | refine nz2 ?_ | refine nz6 ?_ | refine nz32 ?_ | refine And.intro (by assumption) ?_))); (conv => whnf)
    refine ⟨v, hv, hi, fun D1 f1 i1 d1 => ?_⟩
    have k := hK D1 L f1 i1
    unfold qDone at k
    rw [if_pos hx, cN_nI (by omega)] at k
    (repeat ((conv => whnf); (first | refine zo0 ?_ | refine zo1 ?_ | refine br_z ?_ | refine br_o ?_ | refine br_zn ?_ | refine br_on ?_ | refine nz2 ?_ | refine nz6 ?_ | refine nz32 ?_ | refine And.intro (by assumption) ?_))); (conv => whnf)
    rw [c5, d1.1.2.2.1 d (by omega)]
    exact k
  · exact absurd h id
theorem clX_done (l : Launch) : ∀ (a : Nat) (ins : Instr) (b dd : Nat), csX_done[a]? = some (ins, b, dd) → am_Call l yX_done.cls 5 ins b dd (fnX_done a) := by
  intro a ins b dd h
  match a, h with
  | 0, h => cases h; exact am_callS (okX_isDoor l) wcX_isDoor (am_m2 (i := 199) rfl rfl) wtX_isDoor inX (by decide +kernel) (by decide) (by decide)
  | 1, h => cases h; exact am_callV (T := F_10) (N := 17) (okX_learnDay l) wcX_learnDay (am_m3 (i := 11) rfl rfl) wiX_learnDay wsX_learnDay inX rfl (by decide) (by decide +kernel) (by decide) (by decide)
  | k + 2, h => simp [csX_done] at h
theorem okX_done (l : Launch) : am_Ok l yX_done prog_1_method_14_code 2 (some .int) 5 spX_done := am_ok_of (by decide +kernel) flX_ok kiX_ok klX_ok ckX_done (clX_done l) wpX_done
def fnX_sum : Nat → am_Sp := fun a => match a with
  | 0 => spX_learnDay
  | _ => am_no
theorem mfX_sum : ∀ a, am_mono (fnX_sum a) := fun a => match a with
  | 0 => moX_learnDay
  | _ + 1 => am_no_mono
def spX_sum : am_Sp := fun as D L K => match as with
  | [.ref 0, .int x] => ∃ v : vs_T, vok v ∧ ix D v ∧ ∀ (D' : am_D) (L' : am_L), fc D D' → ix D' v → K (some (.int (qSum v x))) D' L'
  | _ => False
theorem moX_sum : am_mono spX_sum := by
  intro as D L K K' hK h
  unfold spX_sum at h ⊢
  split at h
  · obtain ⟨z0, z1, z2, hz⟩ := h
    exact ⟨z0, z1, z2, fun D' L' q1 q2 => hK _ _ _ (hz D' L' q1 q2)⟩
  · exact h
theorem wpX_sum : ∀ (as : List Value) (D : am_D) (L : am_L) (K : am_K), spX_sum as D L K → am_fit 2 as = true ∧ am_Wp false 0 cdX_sum fnX_sum K 0 (am_lo 2 as) [] D L := by
  intro as D L K h
  unfold spX_sum at h
  split at h
  · rename_i x
    obtain ⟨v, hv, hi, hK⟩ := h
    have kb : ¬ ((0 ≤ x ∧ x ≤ 4)) → K (some (.int (-2))) D L := fun q => by
      have k := hK D L fc_rf
      unfold qSum at k
      by_cases c0 : (0 ≤ x ∧ x ≤ 4)
      · exact absurd c0 q
      · rw [if_neg c0] at k
        exact k hi
    refine ⟨rfl, am_Wp_bl mfX_sum [] 90 _ _ _ _ _ ?_⟩
    (repeat ((conv => whnf); (first | refine zo0 ?_ | refine zo1 ?_ | refine br_z ?_ | refine br_o ?_ | refine br_zn ?_ | refine br_on ?_ | refine nz2 ?_ | refine nz6 ?_ | refine nz32 ?_ | refine And.intro (by assumption) ?_))); (conv => whnf)
    refine ⟨fun h1x => ?_, fun h1x => ?_⟩
    · (repeat ((conv => whnf); (first | refine zo0 ?_ | refine zo1 ?_ | refine br_z ?_ | refine br_o ?_ | refine br_zn ?_ | refine br_on ?_ | refine nz2 ?_ | refine nz6 ?_ | refine nz32 ?_ | refine And.intro (by assumption) ?_))); (conv => whnf)
      exact kb (rn0 h1x)
    (repeat ((conv => whnf); (first | refine zo0 ?_ | refine zo1 ?_ | refine br_z ?_ | refine br_o ?_ | refine br_zn ?_ | refine br_on ?_ | refine nz2 ?_ | refine nz6 ?_ | refine nz32 ?_ | refine And.intro (by assumption) ?_))); (conv => whnf)
    refine ⟨fun h2x => ?_, fun h2x => ?_⟩
    rotate_left
    · (repeat ((conv => whnf); (first | refine zo0 ?_ | refine zo1 ?_ | refine br_z ?_ | refine br_o ?_ | refine br_zn ?_ | refine br_on ?_ | refine nz2 ?_ | refine nz6 ?_ | refine nz32 ?_ | refine And.intro (by assumption) ?_))); (conv => whnf)
      exact kb (rn3 4 (Int32.not_lt.mp h2x) rfl (by omega))
    have hx : 0 ≤ x ∧ x ≤ 4 := rq3 4 h1x (fun q => Int32.not_lt.mpr q h2x)
    obtain ⟨c, hc, ec⟩ := rg_nI (n := 4) (by decide) hx
    subst ec
    have i5 : vp_in (nI c) 5 := vp_in_nI (by omega) (by decide)
    have c5 : (nI c).toNatClampNeg = c := nI_clamp (by omega)
    (repeat ((conv => whnf); (first | refine zo0 ?_ | refine zo1 ?_ | refine br_z ?_ | refine br_o ?_ | refine br_zn ?_ | refine br_on ?_ | refine nz2 ?_ | refine nz6 ?_ | refine nz32 ?_ | refine And.intro (by assumption) ?_))); (conv => whnf)
    refine ⟨v, hv, hi, fun D1 f1 i1 d1 => ?_⟩
    have k := hK D1 L f1 i1
    unfold qSum at k
    rw [if_pos hx, cN_nI (by omega)] at k
    have y := d1.2.1
    (repeat ((conv => whnf); (first | refine zo0 ?_ | refine zo1 ?_ | refine br_z ?_ | refine br_o ?_ | refine br_zn ?_ | refine br_on ?_ | refine nz2 ?_ | refine nz6 ?_ | refine nz32 ?_ | refine And.intro (by assumption) ?_))); (conv => whnf)
    rw [c5]
    rcases (show c = 0 ∨ c = 1 ∨ c = 2 ∨ c = 3 ∨ c = 4 by omega) with rfl | rfl | rfl | rfl | rfl
    · rw [y.1]; exact k
    · rw [y.2.1]; exact k
    · rw [y.2.2.1]; exact k
    · rw [y.2.2.2.1]; exact k
    · rw [y.2.2.2.2]; exact k
  · exact absurd h id
theorem clX_sum (l : Launch) : ∀ (a : Nat) (ins : Instr) (b dd : Nat), csX_sum[a]? = some (ins, b, dd) → am_Call l yX_sum.cls 5 ins b dd (fnX_sum a) := by
  intro a ins b dd h
  match a, h with
  | 0, h => cases h; exact am_callV (T := F_10) (N := 17) (okX_learnDay l) wcX_learnDay (am_m3 (i := 11) rfl rfl) wiX_learnDay wsX_learnDay inX rfl (by decide) (by decide +kernel) (by decide) (by decide)
  | k + 1, h => simp [csX_sum] at h
theorem okX_sum (l : Launch) : am_Ok l yX_sum prog_1_method_15_code 2 (some .int) 5 spX_sum := am_ok_of (by decide +kernel) flX_ok kiX_ok klX_ok ckX_sum (clX_sum l) wpX_sum
def fnX_over : Nat → am_Sp := fun a => match a with
  | 0 => spX_learnDay
  | _ => am_no
theorem mfX_over : ∀ a, am_mono (fnX_over a) := fun a => match a with
  | 0 => moX_learnDay
  | _ + 1 => am_no_mono
def spX_over : am_Sp := fun as D L K => match as with
  | [.ref 0] => ∃ v : vs_T, vok v ∧ ix D v ∧ ∀ (D' : am_D) (L' : am_L), fc D D' → ix D' v → K (some (.int (aOver v))) D' L'
  | _ => False
theorem moX_over : am_mono spX_over := by
  intro as D L K K' hK h
  unfold spX_over at h ⊢
  split at h
  · obtain ⟨z0, z1, z2, hz⟩ := h
    exact ⟨z0, z1, z2, fun D' L' q1 q2 => hK _ _ _ (hz D' L' q1 q2)⟩
  · exact h
theorem wpX_over : ∀ (as : List Value) (D : am_D) (L : am_L) (K : am_K), spX_over as D L K → am_fit 1 as = true ∧ am_Wp false 0 cdX_over fnX_over K 0 (am_lo 1 as) [] D L := by
  intro as D L K h
  unfold spX_over at h
  split at h
  · obtain ⟨v, hv, hi, hK⟩ := h
    refine ⟨rfl, am_Wp_bl mfX_over [] 60 _ _ _ _ _ ?_⟩
    (repeat ((conv => whnf); (first | refine zo0 ?_ | refine zo1 ?_ | refine br_z ?_ | refine br_o ?_ | refine br_zn ?_ | refine br_on ?_ | refine nz2 ?_ | refine nz6 ?_ | refine nz32 ?_ | refine And.intro (by assumption) ?_))); (conv => whnf)
    refine ⟨v, hv, hi, fun D1 f1 i1 d1 => ?_⟩
    have k := hK D1 L f1 i1
    (repeat ((conv => whnf); (first | refine zo0 ?_ | refine zo1 ?_ | refine br_z ?_ | refine br_o ?_ | refine br_zn ?_ | refine br_on ?_ | refine nz2 ?_ | refine nz6 ?_ | refine nz32 ?_ | refine And.intro (by assumption) ?_))); (conv => whnf)
    rw [d1.1.2.2.2]
    exact k
  · exact absurd h id
theorem clX_over (l : Launch) : ∀ (a : Nat) (ins : Instr) (b dd : Nat), csX_over[a]? = some (ins, b, dd) → am_Call l yX_over.cls 5 ins b dd (fnX_over a) := by
  intro a ins b dd h
  match a, h with
  | 0, h => cases h; exact am_callV (T := F_10) (N := 17) (okX_learnDay l) wcX_learnDay (am_m3 (i := 11) rfl rfl) wiX_learnDay wsX_learnDay inX rfl (by decide) (by decide +kernel) (by decide) (by decide)
  | k + 1, h => simp [csX_over] at h
theorem okX_over (l : Launch) : am_Ok l yX_over prog_1_method_16_code 1 (some .int) 5 spX_over := am_ok_of (by decide +kernel) flX_ok kiX_ok klX_ok ckX_over (clX_over l) wpX_over
def fnX_lacks : Nat → am_Sp := fun a => match a with
  | 0 => spX_learnDay
  | _ => am_no
theorem mfX_lacks : ∀ a, am_mono (fnX_lacks a) := fun a => match a with
  | 0 => moX_learnDay
  | _ + 1 => am_no_mono
def spX_lacks : am_Sp := fun as D L K => match as with
  | [.ref 0] => ∃ v : vs_T, vok v ∧ ix D v ∧ ∀ (D' : am_D) (L' : am_L), fc D D' → ix D' v → K (some (.int (qLacks v))) D' L'
  | _ => False
theorem moX_lacks : am_mono spX_lacks := by
  intro as D L K K' hK h
  unfold spX_lacks at h ⊢
  split at h
  · obtain ⟨z0, z1, z2, hz⟩ := h
    exact ⟨z0, z1, z2, fun D' L' q1 q2 => hK _ _ _ (hz D' L' q1 q2)⟩
  · exact h
theorem wpX_lacks : ∀ (as : List Value) (D : am_D) (L : am_L) (K : am_K), spX_lacks as D L K → am_fit 1 as = true ∧ am_Wp false 0 cdX_lacks fnX_lacks K 0 (am_lo 1 as) [] D L := by
  intro as D L K h
  unfold spX_lacks at h
  split at h
  · obtain ⟨v, hv, hi, hK⟩ := h
    refine ⟨rfl, am_Wp_bl mfX_lacks [] 60 _ _ _ _ _ ?_⟩
    (repeat ((conv => whnf); (first | refine zo0 ?_ | refine zo1 ?_ | refine br_z ?_ | refine br_o ?_ | refine br_zn ?_ | refine br_on ?_ | refine nz2 ?_ | refine nz6 ?_ | refine nz32 ?_ | refine And.intro (by assumption) ?_))); (conv => whnf)
    refine ⟨v, hv, hi, fun D1 f1 i1 d1 => ?_⟩
    have k := hK D1 L f1 i1
    (repeat ((conv => whnf); (first | refine zo0 ?_ | refine zo1 ?_ | refine br_z ?_ | refine br_o ?_ | refine br_zn ?_ | refine br_on ?_ | refine nz2 ?_ | refine nz6 ?_ | refine nz32 ?_ | refine And.intro (by assumption) ?_))); (conv => whnf)
    rw [d1.2.2]
    exact k
  · exact absurd h id
theorem clX_lacks (l : Launch) : ∀ (a : Nat) (ins : Instr) (b dd : Nat), csX_lacks[a]? = some (ins, b, dd) → am_Call l yX_lacks.cls 5 ins b dd (fnX_lacks a) := by
  intro a ins b dd h
  match a, h with
  | 0, h => cases h; exact am_callV (T := F_10) (N := 17) (okX_learnDay l) wcX_learnDay (am_m3 (i := 11) rfl rfl) wiX_learnDay wsX_learnDay inX rfl (by decide) (by decide +kernel) (by decide) (by decide)
  | k + 1, h => simp [csX_lacks] at h
theorem okX_lacks (l : Launch) : am_Ok l yX_lacks prog_1_method_17_code 1 (some .int) 5 spX_lacks := am_ok_of (by decide +kernel) flX_ok kiX_ok klX_ok ckX_lacks (clX_lacks l) wpX_lacks
