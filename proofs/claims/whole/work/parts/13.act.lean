def fnX_isDoor : Nat → am_Sp := fun _ => am_no
theorem mfX_isDoor : ∀ a, am_mono (fnX_isDoor a) := fun _ => am_no_mono
def isd (x : Int32) : Prop := ¬ x < 0 ∧ ¬ 12 ≤ x
theorem isd_nI {d : Nat} (h : d < 12) : isd (nI d) := ⟨nI_pos (by omega), nI_ge (b := 12) h (by omega)⟩
theorem isd_m1 : ¬ isd (-1) := fun h => h.1 (by decide)
def spX_isDoor : am_Sp := fun as D L K => match as with
  | [.int x] => (isd x → K (some (.int 1)) D L) ∧ (¬ isd x → K (some (.int 0)) D L)
  | _ => False
theorem moX_isDoor : am_mono spX_isDoor := by
  intro as D L K K' hK h
  unfold spX_isDoor at h ⊢
  split at h
  · exact ⟨fun q => hK _ _ _ (h.1 q), fun q => hK _ _ _ (h.2 q)⟩
  · exact h
theorem wpX_isDoor : ∀ (as : List Value) (D : am_D) (L : am_L) (K : am_K), spX_isDoor as D L K → am_fit 1 as = true ∧ am_Wp false 0 cdX_isDoor fnX_isDoor K 0 (am_lo 1 as) [] D L := by
  intro as D L K h
  unfold spX_isDoor at h
  split at h
  · refine ⟨rfl, am_Wp_bl mfX_isDoor [] 20 _ _ _ _ _ ?_⟩
    (repeat ((conv => whnf); (first | refine zo0 ?_ | refine zo1 ?_ | refine br_z ?_ | refine br_o ?_ | refine br_zn ?_ | refine br_on ?_ | refine nz2 ?_ | refine nz6 ?_ | refine nz32 ?_ | refine And.intro (by assumption) ?_))); (conv => whnf)
    refine ⟨fun h1 => ?_, fun h1 => ?_⟩
    · (repeat ((conv => whnf); (first | refine zo0 ?_ | refine zo1 ?_ | refine br_z ?_ | refine br_o ?_ | refine br_zn ?_ | refine br_on ?_ | refine nz2 ?_ | refine nz6 ?_ | refine nz32 ?_ | refine And.intro (by assumption) ?_))); (conv => whnf)
      exact h.2 (fun q => q.1 h1)
    · (repeat ((conv => whnf); (first | refine zo0 ?_ | refine zo1 ?_ | refine br_z ?_ | refine br_o ?_ | refine br_zn ?_ | refine br_on ?_ | refine nz2 ?_ | refine nz6 ?_ | refine nz32 ?_ | refine And.intro (by assumption) ?_))); (conv => whnf)
      refine ⟨fun h2 => ?_, fun h2 => ?_⟩
      · (repeat ((conv => whnf); (first | refine zo0 ?_ | refine zo1 ?_ | refine br_z ?_ | refine br_o ?_ | refine br_zn ?_ | refine br_on ?_ | refine nz2 ?_ | refine nz6 ?_ | refine nz32 ?_ | refine And.intro (by assumption) ?_))); (conv => whnf)
        exact h.2 (fun q => q.2 h2)
      · (repeat ((conv => whnf); (first | refine zo0 ?_ | refine zo1 ?_ | refine br_z ?_ | refine br_o ?_ | refine br_zn ?_ | refine br_on ?_ | refine nz2 ?_ | refine nz6 ?_ | refine nz32 ?_ | refine And.intro (by assumption) ?_))); (conv => whnf)
        exact h.1 ⟨h1, h2⟩
  · exact absurd h id
theorem clX_isDoor (l : Launch) : ∀ (a : Nat) (ins : Instr) (b dd : Nat), csX_isDoor[a]? = some (ins, b, dd) → am_Call l yX_isDoor.cls 0 ins b dd (fnX_isDoor a) := by
  intro a ins b dd h
  match a, h with
  | k + 0, h => simp [csX_isDoor] at h
theorem okX_isDoor (l : Launch) : am_Ok l yX_isDoor prog_1_method_41_code 1 (some .boolean) 0 spX_isDoor := am_ok_of (by decide +kernel) flX_ok kiX_ok klX_ok ckX_isDoor (clX_isDoor l) wpX_isDoor
def fnP_doorAt : Nat → am_Sp := fun _ => am_no
theorem mfP_doorAt : ∀ a, am_mono (fnP_doorAt a) := fun _ => am_no_mono
def spP_doorAt : am_Sp := fun as D L K => match as with
  | [.ref kp, .int x] => ∃ (P : mw_T) (pl : Nat), (kp = 14 ∨ kp = 18) ∧ x = nI pl ∧ pl ≤ 48 ∧ P 0 0 ≤ 24 ∧ px D kp P ∧ (pl < P 0 0 → K (some (.int (nI (P 3 pl)))) D L) ∧ (P 0 0 ≤ pl → K (some (.int (-1))) D L)
  | _ => False
theorem moP_doorAt : am_mono spP_doorAt := by
  intro as D L K K' hK h
  unfold spP_doorAt at h ⊢
  split at h
  · obtain ⟨P, pl, h1, h2, h3, h4, h5, h6, h7⟩ := h
    exact ⟨P, pl, h1, h2, h3, h4, h5, fun q => hK _ _ _ (h6 q), fun q => hK _ _ _ (h7 q)⟩
  · exact h
theorem wpP_doorAt : ∀ (as : List Value) (D : am_D) (L : am_L) (K : am_K), spP_doorAt as D L K → am_fit 2 as = true ∧ am_Wp false 0 cdP_doorAt fnP_doorAt K 0 (am_lo 2 as) [] D L := by
  intro as D L K h
  unfold spP_doorAt at h
  split at h
  · obtain ⟨P, pl, hkp, rfl, hpl, hP, ⟨p1, p2, p3, p4, p5, p6⟩, k1, k2⟩ := h
    rcases hkp with rfl | rfl
    all_goals
      refine ⟨rfl, am_Wp_bl mfP_doorAt [] 30 _ _ _ _ _ ?_⟩
      (repeat ((conv => whnf); (first | refine zo0 ?_ | refine zo1 ?_ | refine br_z ?_ | refine br_o ?_ | refine br_zn ?_ | refine br_on ?_ | refine nz2 ?_ | refine nz6 ?_ | refine nz32 ?_ | refine And.intro (by assumption) ?_))); (conv => whnf)
      refine ⟨fun h1 => absurd h1 (nI_pos (by omega)), fun h1 => ?_⟩
      (repeat ((conv => whnf); (first | refine zo0 ?_ | refine zo1 ?_ | refine br_z ?_ | refine br_o ?_ | refine br_zn ?_ | refine br_on ?_ | refine nz2 ?_ | refine nz6 ?_ | refine nz32 ?_ | refine And.intro (by assumption) ?_))); (conv => whnf)
      refine ⟨fun h2 => ?_, fun h2 => ?_⟩
      · rw [p1, nI_leI (by omega) (by omega)] at h2
        (repeat ((conv => whnf); (first | refine zo0 ?_ | refine zo1 ?_ | refine br_z ?_ | refine br_o ?_ | refine br_zn ?_ | refine br_on ?_ | refine nz2 ?_ | refine nz6 ?_ | refine nz32 ?_ | refine And.intro (by assumption) ?_))); (conv => whnf)
        exact k2 h2
      · rw [p1, nI_leI (by omega) (by omega)] at h2
        (repeat ((conv => whnf); (first | refine zo0 ?_ | refine zo1 ?_ | refine br_z ?_ | refine br_o ?_ | refine br_zn ?_ | refine br_on ?_ | refine nz2 ?_ | refine nz6 ?_ | refine nz32 ?_ | refine And.intro (by assumption) ?_))); (conv => whnf)
        refine ⟨fun h3 => ?_, fun h3 => absurd (nI_lt (b := 24) (by omega) (by omega)) h3⟩
        have hin : vp_in (nI pl) 24 := vp_in_nI (by omega) (by decide)
        (repeat ((conv => whnf); (first | refine zo0 ?_ | refine zo1 ?_ | refine br_z ?_ | refine br_o ?_ | refine br_zn ?_ | refine br_on ?_ | refine nz2 ?_ | refine nz6 ?_ | refine nz32 ?_ | refine And.intro (by assumption) ?_))); (conv => whnf)
        rw [nI_clamp (by omega)]
        have e := p6 pl (by omega)
        have k := k1 (by omega)
        rw [← e] at k
        exact k
  · exact absurd h id
theorem clP_doorAt (l : Launch) : ∀ (a : Nat) (ins : Instr) (b dd : Nat), csP_doorAt[a]? = some (ins, b, dd) → am_Call l yP_doorAt.cls 0 ins b dd (fnP_doorAt a) := by
  intro a ins b dd h
  match a, h with
  | k + 0, h => simp [csP_doorAt] at h
theorem okP_doorAt (l : Launch) : am_Ok l yP_doorAt prog_6_method_3_code 2 (some .int) 0 spP_doorAt := am_ok_of (by decide +kernel) flP_ok kiP_ok klP_ok ckP_doorAt (clP_doorAt l) wpP_doorAt
def fnW_serve : Nat → am_Sp := fun a => match a with
  | 0 => spX_isDoor
  | 1 => spW_hasDog
  | 2 => spJ_min
  | _ => am_no
theorem mfW_serve : ∀ a, am_mono (fnW_serve a) := fun a => match a with
  | 0 => moX_isDoor
  | 1 => moW_hasDog
  | 2 => moJ_min
  | _ + 3 => am_no_mono
def spW_serve : am_Sp := fun as D L K => match as with
  | [.ref 22, .ref kp, .int x] => ∃ (P w : mw_T) (g : Int32) (d t : Nat), (kp = 14 ∨ kp = 18) ∧ x = nI d ∧ d ≤ 11 ∧ mw_pok P ∧ mw_ok P t w ∧ px D kp P ∧ wx D w g ∧ ∀ D', fr 22 25 D D' → wx D' (mw_serve P g w d) g → wd D' (mw_serve P g w d) → K none D' L
  | _ => False
theorem moW_serve : am_mono spW_serve := by
  intro as D L K K' hK h
  unfold spW_serve at h ⊢
  split at h
  · obtain ⟨P, w, g, d, t, h1, h2, h3, h4, h5, h6, h7, h8⟩ := h
    exact ⟨P, w, g, d, t, h1, h2, h3, h4, h5, h6, h7, fun D' q1 q2 q3 => hK _ _ _ (h8 D' q1 q2 q3)⟩
  · exact h
theorem wpW_serve : ∀ (as : List Value) (D : am_D) (L : am_L) (K : am_K), spW_serve as D L K → am_fit 5 as = true ∧ am_Wp false 0 cdW_serve fnW_serve K 0 (am_lo 5 as) [] D L := by
  intro as D L K h
  unfold spW_serve at h
  split at h
  · obtain ⟨P, w, g, dd, t, hkp, rfl, hdd, ⟨q1, q2, q3, q4, q5, q6, q7⟩, ⟨m1, m2, m3, m4, m5, m6, m7, m8, m9⟩, ⟨p1, p2, p3, p4, p5, p6⟩, ⟨aL, a4, a5, a6, a7, a8, a9, a10, a11, a13, a14, a15, a16⟩, hK⟩ := h
    have hin : vp_in (nI dd) 12 := vp_in_nI (by omega) (by decide)
    have ec : (nI dd).toNatClampNeg = dd := nI_clamp (by omega)
    have m9d := m9 dd (by omega)
    have q6d := q6 dd (by omega)
    have x1 := (aL dd (by omega)).1
    have x2 := (aL dd (by omega)).2.1
    have x3 := (aL dd (by omega)).2.2
    have x4 := (p5 dd (by omega)).1
    have hl : mw_lay P w dd ≤ w 0 3 := Nat.min_le_right _ _
    have hl2 : mw_lay P w dd ≤ P 1 dd - w 1 dd := Nat.min_le_left _ _
    have hf : mw_lift P w dd ≤ w 3 dd := Nat.min_le_left _ _
    have s1 : nI (P 1 dd) - nI (w 1 dd) = nI (P 1 dd - w 1 dd) := pk_sub (by omega)
    have s2 : (if nI (w 0 3) < nI (P 1 dd - w 1 dd) then nI (w 0 3) else nI (P 1 dd - w 1 dd)) = nI (mw_lay P w dd) := mn_nI (by omega) (by omega)
    have s3 : nI (w 0 3) - nI (mw_lay P w dd) = nI (w 0 3 - mw_lay P w dd) := pk_sub (by omega)
    have s4 : nI (P 0 2) - nI (w 0 3 - mw_lay P w dd) = nI (P 0 2 - (w 0 3 - mw_lay P w dd)) := pk_sub (by omega)
    have s5 : nI (P 0 2 - (w 0 3 - mw_lay P w dd)) - nI (w 0 4) = nI (P 0 2 - (w 0 3 - mw_lay P w dd) - w 0 4) := pk_sub (by omega)
    have s6 : (if nI (P 0 2 - (w 0 3 - mw_lay P w dd) - w 0 4) < nI (w 3 dd) then nI (P 0 2 - (w 0 3 - mw_lay P w dd) - w 0 4) else nI (w 3 dd)) = nI (mw_lift P w dd) := mn_nI (by omega) (by omega)
    have s7 : nI (w 3 dd) - nI (mw_lift P w dd) = nI (w 3 dd - mw_lift P w dd) := pk_sub hf
    rcases hkp with rfl | rfl
    all_goals
      refine ⟨rfl, am_Wp_bl mfW_serve [] 120 _ _ _ _ _ ?_⟩
      (repeat ((conv => whnf); (first | refine zo0 ?_ | refine zo1 ?_ | refine br_z ?_ | refine br_o ?_ | refine br_zn ?_ | refine br_on ?_ | refine nz2 ?_ | refine nz6 ?_ | refine nz32 ?_ | refine And.intro (by assumption) ?_))); (conv => whnf)
      refine ⟨fun _ => ?_, fun q => absurd (isd_nI (by omega)) q⟩
      (repeat ((conv => whnf); (first | refine zo0 ?_ | refine zo1 ?_ | refine br_z ?_ | refine br_o ?_ | refine br_zn ?_ | refine br_on ?_ | refine nz2 ?_ | refine nz6 ?_ | refine nz32 ?_ | refine And.intro (by assumption) ?_))); (conv => whnf)
      refine ⟨fun h3 => ?_, fun h3 => ?_⟩
      · rw [a11] at h3
        (repeat ((conv => whnf); (first | refine zo0 ?_ | refine zo1 ?_ | refine br_z ?_ | refine br_o ?_ | refine br_zn ?_ | refine br_on ?_ | refine nz2 ?_ | refine nz6 ?_ | refine nz32 ?_ | refine And.intro (by assumption) ?_))); (conv => whnf)
        refine ⟨fun h4 => ?_, fun h4 => ?_⟩
        · simp [am_up, upd, ec, x1, x4, a7, s1, s2, nI_add] at h4
          have h5 : ¬ P 1 dd ≤ w 1 dd + mw_lay P w dd := by
            rw [nI_ltI (by omega) (by omega)] at h4
            omega
          (repeat ((conv => whnf); (first | refine zo0 ?_ | refine zo1 ?_ | refine br_z ?_ | refine br_o ?_ | refine br_zn ?_ | refine br_on ?_ | refine nz2 ?_ | refine nz6 ?_ | refine nz32 ?_ | refine And.intro (by assumption) ?_))); (conv => whnf)
          refine hK _ (by repeat (first | exact fr_rf | refine fr_up (by decide) (by decide) ?_ | refine fr_upA (by decide) (by decide) ?_)) ?_ (by simp [wd, am_up, upd, up2, mw_serve, mw_dog_f h3, nc3])
          refine ⟨fun d hd => ?_, ?_⟩
          · obtain ⟨b1, b2, b3⟩ := aL d hd
            by_cases ed : d = dd
            · subst ed
              refine ⟨?_, ?_, ?_⟩ <;> simp [am_up, upd, up2, ec, x1, x2, x3, x4, p3, s1, s2, s3, s4, s5, s6, s7, nI_add, mw_serve, mw_dog_f h3, h5, a4, a5, a6, a7, a8, a9, a10, a11, a13, a14, a15, a16, b1, b2, b3, nI_0, nc1, nc2, nc3, nc4]
            · refine ⟨?_, ?_, ?_⟩ <;> simp [am_up, upd, up2, ec, x1, x2, x3, x4, p3, s1, s2, s3, s4, s5, s6, s7, nI_add, mw_serve, mw_dog_f h3, h5, ed, b1, b2, b3, nI_0, nc1, nc2, nc3, nc4]
          · refine ⟨?_, ?_, ?_, ?_, ?_, ?_, ?_, ?_, ?_, ?_, ?_, ?_⟩ <;> simp [am_up, upd, up2, ec, x1, x2, x3, x4, p3, s1, s2, s3, s4, s5, s6, s7, nI_add, mw_serve, mw_dog_f h3, h5, a4, a5, a6, a7, a8, a9, a10, a11, a13, a14, a15, a16, nI_0, nc1, nc2, nc3, nc4]
        · simp [am_up, upd, ec, x1, x4, a7, s1, s2, nI_add] at h4
          have h5 : P 1 dd ≤ w 1 dd + mw_lay P w dd := by
            rw [nI_leI (by omega) (by omega)] at h4
            exact h4
          (repeat ((conv => whnf); (first | refine zo0 ?_ | refine zo1 ?_ | refine br_z ?_ | refine br_o ?_ | refine br_zn ?_ | refine br_on ?_ | refine nz2 ?_ | refine nz6 ?_ | refine nz32 ?_ | refine And.intro (by assumption) ?_))); (conv => whnf)
          refine hK _ (by repeat (first | exact fr_rf | refine fr_up (by decide) (by decide) ?_ | refine fr_upA (by decide) (by decide) ?_)) ?_ (by simp [wd, am_up, upd, up2, mw_serve, mw_dog_f h3, nc3])
          refine ⟨fun d hd => ?_, ?_⟩
          · obtain ⟨b1, b2, b3⟩ := aL d hd
            by_cases ed : d = dd
            · subst ed
              refine ⟨?_, ?_, ?_⟩ <;> simp [am_up, upd, up2, ec, x1, x2, x3, x4, p3, s1, s2, s3, s4, s5, s6, s7, nI_add, mw_serve, mw_dog_f h3, h5, nI_1, a4, a5, a6, a7, a8, a9, a10, a11, a13, a14, a15, a16, b1, b2, b3, nI_0, nc1, nc2, nc3, nc4]
            · refine ⟨?_, ?_, ?_⟩ <;> simp [am_up, upd, up2, ec, x1, x2, x3, x4, p3, s1, s2, s3, s4, s5, s6, s7, nI_add, mw_serve, mw_dog_f h3, h5, nI_1, ed, b1, b2, b3, nI_0, nc1, nc2, nc3, nc4]
          · refine ⟨?_, ?_, ?_, ?_, ?_, ?_, ?_, ?_, ?_, ?_, ?_, ?_⟩ <;> simp [am_up, upd, up2, ec, x1, x2, x3, x4, p3, s1, s2, s3, s4, s5, s6, s7, nI_add, mw_serve, mw_dog_f h3, h5, nI_1, a4, a5, a6, a7, a8, a9, a10, a11, a13, a14, a15, a16, nI_0, nc1, nc2, nc3, nc4]
      · rw [a11] at h3
        (repeat ((conv => whnf); (first | refine zo0 ?_ | refine zo1 ?_ | refine br_z ?_ | refine br_o ?_ | refine br_zn ?_ | refine br_on ?_ | refine nz2 ?_ | refine nz6 ?_ | refine nz32 ?_ | refine And.intro (by assumption) ?_))); (conv => whnf)
        refine hK _ (by repeat (first | exact fr_rf | refine fr_up (by decide) (by decide) ?_ | refine fr_upA (by decide) (by decide) ?_)) ?_ (by simp [wd, am_up, upd, up2, mw_serve, mw_dog_t h3, nc4])
        refine ⟨fun d hd => ?_, ?_⟩
        · obtain ⟨b1, b2, b3⟩ := aL d hd
          refine ⟨?_, ?_, ?_⟩ <;> simp [am_up, upd, up2, mw_serve, mw_dog_t h3, b1, b2, b3, nI_0, nc1, nc2, nc3, nc4]
        · refine ⟨?_, ?_, ?_, ?_, ?_, ?_, ?_, ?_, ?_, ?_, ?_, ?_⟩ <;> simp [am_up, upd, up2, mw_serve, mw_dog_t h3, a4, a5, a6, a7, a8, a9, a10, a11, a13, a14, a15, a16, nI_0, nc1, nc2, nc3, nc4]
  · exact absurd h id
theorem clW_serve (l : Launch) : ∀ (a : Nat) (ins : Instr) (b dd : Nat), csW_serve[a]? = some (ins, b, dd) → am_Call l yW_serve.cls 1 ins b dd (fnW_serve a) := by
  intro a ins b dd h
  match a, h with
  | 0, h => cases h; exact am_callSN (okX_isDoor l) wcX_isDoor (am_n3 (i := 52) rfl rfl) wtX_isDoor inX (by decide +kernel) (by decide) (by decide)
  | 1, h => cases h; exact am_callV (T := F_9) (N := 17) (okW_hasDog l) wcW_hasDog (am_m3 (i := 62) rfl rfl) wiW_hasDog wsW_hasDog inW rfl (by decide) (by decide +kernel) (by decide) (by decide)
  | 2, h => cases h; exact am_callMin (am_m3 (i := 42) rfl rfl) (wcJ_min) (wtJ_min) inJM (by decide)
  | k + 3, h => simp [csW_serve] at h
theorem okW_serve (l : Launch) : am_Ok l yW_serve prog_11_method_11_code 5 none 1 spW_serve := am_ok_of (by decide +kernel) flW_ok kiW_ok klW_ok ckW_serve (clW_serve l) wpW_serve
def fnW_act : Nat → am_Sp := fun a => match a with
  | 0 => spP_doorAt
  | 1 => spX_isDoor
  | 2 => spW_goTowards
  | 3 => spW_fillCrate
  | 4 => spW_serve
  | _ => am_no
theorem mfW_act : ∀ a, am_mono (fnW_act a) := fun a => match a with
  | 0 => moP_doorAt
  | 1 => moX_isDoor
  | 2 => moW_goTowards
  | 3 => moW_fillCrate
  | 4 => moW_serve
  | _ + 5 => am_no_mono
def spW_act : am_Sp := fun as D L K => match as with
  | [.ref 22, .ref kp] => ∃ (P w : mw_T) (g : Int32) (t : Nat), (kp = 14 ∨ kp = 18) ∧ t < 48 ∧ mw_pok P ∧ mw_ok P t w ∧ px D kp P ∧ wx D w g ∧ ∀ D', fr 22 25 D D' → wx D' (mw_act P g w) g → wd D' (mw_act P g w) → K none D' L
  | _ => False
theorem moW_act : am_mono spW_act := by
  intro as D L K K' hK h
  unfold spW_act at h ⊢
  split at h
  · obtain ⟨P, w, g, t, h1, h2, h4, h5, h6, h7, h8⟩ := h
    exact ⟨P, w, g, t, h1, h2, h4, h5, h6, h7, fun D' q1 q2 q3 => hK _ _ _ (h8 D' q1 q2 q3)⟩
  · exact h
theorem wpW_act : ∀ (as : List Value) (D : am_D) (L : am_L) (K : am_K), spW_act as D L K → am_fit 5 as = true ∧ am_Wp false 0 cdW_act fnW_act K 0 (am_lo 5 as) [] D L := by
  intro as D L K h
  unfold spW_act at h
  split at h
  · obtain ⟨P, w, g, t, hkp, ht, hP, hO, hpx, hw, hK⟩ := h
    have hP' := hP
    have hO' := hO
    have hpx' := hpx
    have hw' := hw
    obtain ⟨q1, q2, q3, q4, q5, q6, q7⟩ := hP'
    obtain ⟨m1, m2, m3, m4, m5, m6, m7, m8, m9⟩ := hO'
    obtain ⟨p1, p2, p3, p4, p5, p6⟩ := hpx'
    obtain ⟨aL, a4, a5, a6, a7, a8, a9, a10, a11, a13, a14, a15, a16⟩ := hw'
    have rest : w 0 6 = 1 ∨ P 0 0 ≤ w 0 5 → K none (am_up D 22 12 0) L := by
      intro q
      refine hK _ (by repeat (first | exact fr_rf | refine fr_up (by decide) (by decide) ?_ | refine fr_upA (by decide) (by decide) ?_)) ?_ (by simp [wd, am_up, upd, mw_act, q, up2, nI_0])
      rw [mw_act, if_pos q]
      refine ⟨fun d hd => ?_, ?_⟩
      · obtain ⟨b1, b2, b3⟩ := aL d hd
        refine ⟨?_, ?_, ?_⟩ <;> simp [am_up, upd, up2, b1, b2, b3, nI_0, nc1, nc2, nc3, nc4]
      · refine ⟨?_, ?_, ?_, ?_, ?_, ?_, ?_, ?_, ?_, ?_, ?_, ?_⟩ <;> simp [am_up, upd, up2, a4, a5, a6, a7, a8, a9, a10, a11, a13, a14, a15, a16, nI_0, nc1, nc2, nc3, nc4]
    rcases hkp with rfl | rfl
    all_goals
      refine ⟨rfl, am_Wp_bl mfW_act [] 120 _ _ _ _ _ ?_⟩
      (repeat ((conv => whnf); (first | refine zo0 ?_ | refine zo1 ?_ | refine br_z ?_ | refine br_o ?_ | refine br_zn ?_ | refine br_on ?_ | refine nz2 ?_ | refine nz6 ?_ | refine nz32 ?_ | refine And.intro (by assumption) ?_))); (conv => whnf)
      refine ⟨fun h1 => ?_, fun h1 => ?_⟩
      · have h1' : w 0 6 = 0 := by
          rw [a10] at h1
          rcases Nat.eq_zero_or_pos (w 0 6) with q | q
          · exact q
          · exact absurd h1 (nI_ne0 q (by omega))
        (repeat ((conv => whnf); (first | refine zo0 ?_ | refine zo1 ?_ | refine br_z ?_ | refine br_o ?_ | refine br_zn ?_ | refine br_on ?_ | refine nz2 ?_ | refine nz6 ?_ | refine nz32 ?_ | refine And.intro (by assumption) ?_))); (conv => whnf)
        refine ⟨P, w 0 5, by first | exact Or.inl rfl | exact Or.inr rfl, a9, by omega, q1, hpx, fun hpl => ?_, fun hpl => ?_⟩
        · have hdd : P 3 (w 0 5) ≤ 11 := q7 _ hpl
          have hin : vp_in (nI (P 3 (w 0 5))) 12 := vp_in_nI (by omega) (by decide)
          have ec : (nI (P 3 (w 0 5))).toNatClampNeg = P 3 (w 0 5) := nI_clamp (by omega)
          have m9d := m9 _ (show P 3 (w 0 5) < 12 by omega)
          have q6d := q6 _ (show P 3 (w 0 5) < 12 by omega)
          have x1 := (aL _ (show P 3 (w 0 5) < 12 by omega)).1
          have x4 := (p5 _ (show P 3 (w 0 5) < 12 by omega)).1
          have hno : ¬ (w 0 6 = 1 ∨ P 0 0 ≤ w 0 5) := by omega
          (repeat ((conv => whnf); (first | refine zo0 ?_ | refine zo1 ?_ | refine br_z ?_ | refine br_o ?_ | refine br_zn ?_ | refine br_on ?_ | refine nz2 ?_ | refine nz6 ?_ | refine nz32 ?_ | refine And.intro (by assumption) ?_))); (conv => whnf)
          refine ⟨fun _ => ?_, fun q => absurd (isd_nI (by omega)) q⟩
          (repeat ((conv => whnf); (first | refine zo0 ?_ | refine zo1 ?_ | refine br_z ?_ | refine br_o ?_ | refine br_zn ?_ | refine br_on ?_ | refine nz2 ?_ | refine nz6 ?_ | refine nz32 ?_ | refine And.intro (by assumption) ?_))); (conv => whnf)
          refine ⟨fun h2 => ?_, fun h2 => ?_⟩
          · have h2' : ¬ (w 0 3 = 0 ∧ w 1 (P 3 (w 0 5)) < P 1 (P 3 (w 0 5))) := by
              intro q
              rw [a7, q.1, nI_0] at h2
              exact h2 rfl
            (repeat ((conv => whnf); (first | refine zo0 ?_ | refine zo1 ?_ | refine br_z ?_ | refine br_o ?_ | refine br_zn ?_ | refine br_on ?_ | refine nz2 ?_ | refine nz6 ?_ | refine nz32 ?_ | refine And.intro (by assumption) ?_))); (conv => whnf)
            refine ⟨fun h3 => ?_, fun h3 => ?_⟩
            · rw [a4, nI_eq (by omega) (by omega)] at h3
              (repeat ((conv => whnf); (first | refine zo0 ?_ | refine zo1 ?_ | refine br_z ?_ | refine br_o ?_ | refine br_zn ?_ | refine br_on ?_ | refine nz2 ?_ | refine nz6 ?_ | refine nz32 ?_ | refine And.intro (by assumption) ?_))); (conv => whnf)
              refine ⟨P, w, g, P 3 (w 0 5), t, by first | exact Or.inl rfl | exact Or.inr rfl, rfl, hdd, hP, hO, hpx, hw, fun D' f1 f2 f3 => hK D' f1 ?_ ?_⟩
              · rw [mw_act, if_neg hno, if_neg h2', if_pos h3]; exact f2
              · rw [mw_act, if_neg hno, if_neg h2', if_pos h3]; exact f3
            · rw [a4, nI_eq (by omega) (by omega)] at h3
              (repeat ((conv => whnf); (first | refine zo0 ?_ | refine zo1 ?_ | refine br_z ?_ | refine br_o ?_ | refine br_zn ?_ | refine br_on ?_ | refine nz2 ?_ | refine nz6 ?_ | refine nz32 ?_ | refine And.intro (by assumption) ?_))); (conv => whnf)
              refine ⟨w, g, P 3 (w 0 5), rfl, hdd, m1, h3, hw, fun D' f1 f2 f3 => hK D' f1 ?_ ?_⟩
              · rw [mw_act, if_neg hno, if_neg h2', if_neg h3]; exact f2
              · rw [mw_act, if_neg hno, if_neg h2', if_neg h3]; exact f3
          · rw [a7] at h2
            have h2z : w 0 3 = 0 := by
              rcases Nat.eq_zero_or_pos (w 0 3) with q | q
              · exact q
              · exact absurd h2 (nI_ne0 q (by omega))
            (repeat ((conv => whnf); (first | refine zo0 ?_ | refine zo1 ?_ | refine br_z ?_ | refine br_o ?_ | refine br_zn ?_ | refine br_on ?_ | refine nz2 ?_ | refine nz6 ?_ | refine nz32 ?_ | refine And.intro (by assumption) ?_))); (conv => whnf)
            refine ⟨fun h3 => ?_, fun h3 => ?_⟩
            · rw [ec, x4, x1, nI_leI (by omega) (by omega)] at h3
              have h2' : ¬ (w 0 3 = 0 ∧ w 1 (P 3 (w 0 5)) < P 1 (P 3 (w 0 5))) := by omega
              (repeat ((conv => whnf); (first | refine zo0 ?_ | refine zo1 ?_ | refine br_z ?_ | refine br_o ?_ | refine br_zn ?_ | refine br_on ?_ | refine nz2 ?_ | refine nz6 ?_ | refine nz32 ?_ | refine And.intro (by assumption) ?_))); (conv => whnf)
              refine ⟨fun h3 => ?_, fun h3 => ?_⟩
              · rw [a4, nI_eq (by omega) (by omega)] at h3
                (repeat ((conv => whnf); (first | refine zo0 ?_ | refine zo1 ?_ | refine br_z ?_ | refine br_o ?_ | refine br_zn ?_ | refine br_on ?_ | refine nz2 ?_ | refine nz6 ?_ | refine nz32 ?_ | refine And.intro (by assumption) ?_))); (conv => whnf)
                refine ⟨P, w, g, P 3 (w 0 5), t, by first | exact Or.inl rfl | exact Or.inr rfl, rfl, hdd, hP, hO, hpx, hw, fun D' f1 f2 f3 => hK D' f1 ?_ ?_⟩
                · rw [mw_act, if_neg hno, if_neg h2', if_pos h3]; exact f2
                · rw [mw_act, if_neg hno, if_neg h2', if_pos h3]; exact f3
              · rw [a4, nI_eq (by omega) (by omega)] at h3
                (repeat ((conv => whnf); (first | refine zo0 ?_ | refine zo1 ?_ | refine br_z ?_ | refine br_o ?_ | refine br_zn ?_ | refine br_on ?_ | refine nz2 ?_ | refine nz6 ?_ | refine nz32 ?_ | refine And.intro (by assumption) ?_))); (conv => whnf)
                refine ⟨w, g, P 3 (w 0 5), rfl, hdd, m1, h3, hw, fun D' f1 f2 f3 => hK D' f1 ?_ ?_⟩
                · rw [mw_act, if_neg hno, if_neg h2', if_neg h3]; exact f2
                · rw [mw_act, if_neg hno, if_neg h2', if_neg h3]; exact f3
            · rw [ec, x4, x1, nI_leI (by omega) (by omega)] at h3
              have h2' : w 0 3 = 0 ∧ w 1 (P 3 (w 0 5)) < P 1 (P 3 (w 0 5)) := by omega
              (repeat ((conv => whnf); (first | refine zo0 ?_ | refine zo1 ?_ | refine br_z ?_ | refine br_o ?_ | refine br_zn ?_ | refine br_on ?_ | refine nz2 ?_ | refine nz6 ?_ | refine nz32 ?_ | refine And.intro (by assumption) ?_))); (conv => whnf)
              refine ⟨fun h3 => ?_, fun h3 => ?_⟩
              · rw [a4, a5, nI_eq (by omega) (by omega)] at h3
                (repeat ((conv => whnf); (first | refine zo0 ?_ | refine zo1 ?_ | refine br_z ?_ | refine br_o ?_ | refine br_zn ?_ | refine br_on ?_ | refine nz2 ?_ | refine nz6 ?_ | refine nz32 ?_ | refine And.intro (by assumption) ?_))); (conv => whnf)
                refine ⟨w, g, P 0 2, p3, q4, m3, hw, fun D' f1 f2 f3 => hK D' f1 ?_ ?_⟩
                · rw [mw_act, if_neg hno, if_pos h2', if_pos h3]; exact f2
                · rw [mw_act, if_neg hno, if_pos h2', if_pos h3]; exact f3
              · rw [a4, a5, nI_eq (by omega) (by omega)] at h3
                (repeat ((conv => whnf); (first | refine zo0 ?_ | refine zo1 ?_ | refine br_z ?_ | refine br_o ?_ | refine br_zn ?_ | refine br_on ?_ | refine nz2 ?_ | refine nz6 ?_ | refine nz32 ?_ | refine And.intro (by assumption) ?_))); (conv => whnf)
                refine ⟨w, g, w 0 1, a5, m2, m1, h3, hw, fun D' f1 f2 f3 => hK D' f1 ?_ ?_⟩
                · rw [mw_act, if_neg hno, if_pos h2', if_neg h3]; exact f2
                · rw [mw_act, if_neg hno, if_pos h2', if_neg h3]; exact f3
        · (repeat ((conv => whnf); (first | refine zo0 ?_ | refine zo1 ?_ | refine br_z ?_ | refine br_o ?_ | refine br_zn ?_ | refine br_on ?_ | refine nz2 ?_ | refine nz6 ?_ | refine nz32 ?_ | refine And.intro (by assumption) ?_))); (conv => whnf)
          refine ⟨fun q => absurd q isd_m1, fun _ => ?_⟩
          (repeat ((conv => whnf); (first | refine zo0 ?_ | refine zo1 ?_ | refine br_z ?_ | refine br_o ?_ | refine br_zn ?_ | refine br_on ?_ | refine nz2 ?_ | refine nz6 ?_ | refine nz32 ?_ | refine And.intro (by assumption) ?_))); (conv => whnf)
          exact rest (Or.inr hpl)
      · have h1' : w 0 6 = 1 := by
          rw [a10] at h1
          rcases Nat.eq_zero_or_pos (w 0 6) with q | q
          · rw [q, nI_0] at h1
            exact absurd rfl h1
          · omega
        (repeat ((conv => whnf); (first | refine zo0 ?_ | refine zo1 ?_ | refine br_z ?_ | refine br_o ?_ | refine br_zn ?_ | refine br_on ?_ | refine nz2 ?_ | refine nz6 ?_ | refine nz32 ?_ | refine And.intro (by assumption) ?_))); (conv => whnf)
        refine ⟨fun q => absurd q isd_m1, fun _ => ?_⟩
        (repeat ((conv => whnf); (first | refine zo0 ?_ | refine zo1 ?_ | refine br_z ?_ | refine br_o ?_ | refine br_zn ?_ | refine br_on ?_ | refine nz2 ?_ | refine nz6 ?_ | refine nz32 ?_ | refine And.intro (by assumption) ?_))); (conv => whnf)
        exact rest (Or.inl h1')
  · exact absurd h id
theorem clW_act (l : Launch) : ∀ (a : Nat) (ins : Instr) (b dd : Nat), csW_act[a]? = some (ins, b, dd) → am_Call l yW_act.cls 2 ins b dd (fnW_act a) := by
  intro a ins b dd h
  match a, h with
  | 0, h => cases h; exact am_callV (T := F_4) (N := 8) (okP_doorAt l) wcP_doorAt (am_m3 (i := 57) rfl rfl) wiP_doorAt wsP_doorAt inP rfl (by decide) (by decide +kernel) (by decide) (by decide)
  | 1, h => cases h; exact am_callSN (okX_isDoor l) wcX_isDoor (am_n3 (i := 52) rfl rfl) wtX_isDoor inX (by decide +kernel) (by decide) (by decide)
  | 2, h => cases h; exact am_callV (T := F_9) (N := 17) (okW_goTowards l) wcW_goTowards (am_m3 (i := 58) rfl rfl) wiW_goTowards wsW_goTowards inW rfl (by decide) (by decide +kernel) (by decide) (by decide)
  | 3, h => cases h; exact am_callV (T := F_9) (N := 17) (okW_fillCrate l) wcW_fillCrate (am_m3 (i := 66) rfl rfl) wiW_fillCrate wsW_fillCrate inW rfl (by decide) (by decide +kernel) (by decide) (by decide)
  | 4, h => cases h; exact am_callV (T := F_9) (N := 17) (okW_serve l) wcW_serve (am_m3 (i := 70) rfl rfl) wiW_serve wsW_serve inW rfl (by decide) (by decide +kernel) (by decide) (by decide)
  | k + 5, h => simp [csW_act] at h
theorem okW_act (l : Launch) : am_Ok l yW_act prog_11_method_7_code 5 none 2 spW_act := am_ok_of (by decide +kernel) flW_ok kiW_ok klW_ok ckW_act (clW_act l) wpW_act
