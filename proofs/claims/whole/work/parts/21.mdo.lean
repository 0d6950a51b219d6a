def fnM_does : Nat → am_Sp := fun a => match a with
  | 0 => spM_wanting
  | 1 => spM_goes
  | 2 => spM_fills
  | 3 => spM_serves
  | _ => am_no
theorem mfM_does : ∀ a, am_mono (fnM_does a) := fun a => match a with
  | 0 => moM_wanting
  | 1 => moM_goes
  | 2 => moM_fills
  | 3 => moM_serves
  | _ + 4 => am_no_mono
def spM_does : am_Sp := fun as D L K => match as with
  | [.ref 49] => ∃ (P w : mw_T) (g : Int32) (t : Nat), t < 48 ∧ mw_pok P ∧ mw_ok P t w ∧ pm D P ∧ wm D w g ∧ ∀ D' r, fm D D' → wm D' (mw_act P g w) g → r = nI (mw_act P g w 0 7) → K (some (.int r)) D' L
  | _ => False
theorem moM_does : am_mono spM_does := by
  intro as D L K K' hK h
  unfold spM_does at h ⊢
  split at h
  · obtain ⟨P, w, g, t, h2, h4, h5, h6, h7, h8⟩ := h
    exact ⟨P, w, g, t, h2, h4, h5, h6, h7, fun D' r q1 q2 q3 => hK _ _ _ (h8 D' r q1 q2 q3)⟩
  · exact h
theorem wpM_does : ∀ (as : List Value) (D : am_D) (L : am_L) (K : am_K), spM_does as D L K → am_fit 4 as = true ∧ am_Wp false 0 cdM_does fnM_does K 0 (am_lo 4 as) [] D L := by
  intro as D L K h
  unfold spM_does at h
  split at h
  · obtain ⟨P, w, g, t, ht, hP, hO, hpm, hw, hK⟩ := h
    have hP' := hP
    have hO' := hO
    have hpm' := hpm
    have hw' := hw
    obtain ⟨q1, q2, q3, q4, q5, q6, q7⟩ := hP'
    obtain ⟨m1, m2, m3, m4, m5, m6, m7, m8, m9⟩ := hO'
    obtain ⟨p1, p2, p3, p4, p5, p6⟩ := hpm'
    obtain ⟨aL, a16, a17, a18, a19, a20, a21, a22, a23, a24, a25, a26, a27⟩ := hw'
    have rest : w 0 6 = 1 ∨ P 0 0 ≤ w 0 5 → K (some (.int 0)) D L := by
      intro q
      refine hK _ _ (by repeat (first | exact fm_rf | refine fm_up (by decide) (by decide) ?_ | refine fm_upA (by decide) (by decide) ?_)) ?_ (by simp [mw_act, q, up2, nI_0])
      rw [mw_act, if_pos q]
      refine ⟨fun d hd => ?_, ?_⟩
      · obtain ⟨b1, b2, b3⟩ := aL d hd
        refine ⟨?_, ?_, ?_⟩ <;> simp [am_up, upd, up2, b1, b2, b3, nI_0, nc1, nc2, nc3, nc4]
      · refine ⟨?_, ?_, ?_, ?_, ?_, ?_, ?_, ?_, ?_, ?_, ?_, ?_⟩ <;> simp [am_up, upd, up2, a16, a17, a18, a19, a20, a21, a22, a23, a24, a25, a26, a27, nI_0, nc1, nc2, nc3, nc4]
    refine ⟨rfl, am_Wp_bl mfM_does [] 120 _ _ _ _ _ ?_⟩
    (repeat ((conv => whnf); (first | refine zo0 ?_ | refine zo1 ?_ | refine br_z ?_ | refine br_o ?_ | refine br_zn ?_ | refine br_on ?_ | refine nz2 ?_ | refine nz6 ?_ | refine nz32 ?_ | refine And.intro (by assumption) ?_))); (conv => whnf)
    refine ⟨fun h1 => ?_, fun h1 => ?_⟩
    · have h1' : w 0 6 = 1 := by
        rw [a22] at h1
        rcases Nat.eq_zero_or_pos (w 0 6) with q | q
        · rw [q, nI_0] at h1
          exact absurd rfl h1
        · omega
      (repeat ((conv => whnf); (first | refine zo0 ?_ | refine zo1 ?_ | refine br_z ?_ | refine br_o ?_ | refine br_zn ?_ | refine br_on ?_ | refine nz2 ?_ | refine nz6 ?_ | refine nz32 ?_ | refine And.intro (by assumption) ?_))); (conv => whnf)
      exact rest (Or.inl h1')
    · have h1' : w 0 6 = 0 := by
        rw [a22] at h1
        rcases Nat.eq_zero_or_pos (w 0 6) with q | q
        · exact q
        · exact absurd h1 (nI_ne0 q (by omega))
      (repeat ((conv => whnf); (first | refine zo0 ?_ | refine zo1 ?_ | refine br_z ?_ | refine br_o ?_ | refine br_zn ?_ | refine br_on ?_ | refine nz2 ?_ | refine nz6 ?_ | refine nz32 ?_ | refine And.intro (by assumption) ?_))); (conv => whnf)
      refine ⟨fun hpl => ?_, fun hpl => ?_⟩
      · rw [a21, p1, nI_ltI (by omega) (by omega)] at hpl
        have hdd : P 3 (w 0 5) ≤ 11 := q7 _ hpl
        have hin0 : vp_in (D 49 21) 24 := by rw [a21]; exact vp_in_nI (by omega) (by decide)
        have ed : D 60 (D 49 21).toNatClampNeg = nI (P 3 (w 0 5)) := by rw [a21, nI_clamp (by omega)]; exact p6 _ hpl
        have m9d := m9 _ (show P 3 (w 0 5) < 12 by omega)
        have q6d := q6 _ (show P 3 (w 0 5) < 12 by omega)
        have x1 := (aL _ (show P 3 (w 0 5) < 12 by omega)).1
        have x4 := (p5 _ (show P 3 (w 0 5) < 12 by omega)).1
        have hno : ¬ (w 0 6 = 1 ∨ P 0 0 ≤ w 0 5) := by omega
        (repeat ((conv => whnf); (first | refine zo0 ?_ | refine zo1 ?_ | refine br_z ?_ | refine br_o ?_ | refine br_zn ?_ | refine br_on ?_ | refine nz2 ?_ | refine nz6 ?_ | refine nz32 ?_ | refine And.intro (by assumption) ?_))); (conv => whnf)
        rw [ed]
        refine ⟨fun h2 => ?_, fun h2 => ?_⟩
        · have h2' : ¬ (w 0 3 = 0 ∧ w 1 (P 3 (w 0 5)) < P 1 (P 3 (w 0 5))) := by
            intro q
            rw [a18, q.1, nI_0] at h2
            exact h2 rfl
          (repeat ((conv => whnf); (first | refine zo0 ?_ | refine zo1 ?_ | refine br_z ?_ | refine br_o ?_ | refine br_zn ?_ | refine br_on ?_ | refine nz2 ?_ | refine nz6 ?_ | refine nz32 ?_ | refine And.intro (by assumption) ?_))); (conv => whnf)
          refine ⟨fun h3 => ?_, fun h3 => ?_⟩
          · rw [a16, nI_eq (by omega) (by omega)] at h3
            (repeat ((conv => whnf); (first | refine zo0 ?_ | refine zo1 ?_ | refine br_z ?_ | refine br_o ?_ | refine br_zn ?_ | refine br_on ?_ | refine nz2 ?_ | refine nz6 ?_ | refine nz32 ?_ | refine And.intro (by assumption) ?_))); (conv => whnf)
            refine ⟨P, w, g, P 3 (w 0 5), t, rfl, hdd, hP, hO, p3, x4, hw, fun D' r f1 f2 f3 => ?_⟩
            (repeat ((conv => whnf); (first | refine zo0 ?_ | refine zo1 ?_ | refine br_z ?_ | refine br_o ?_ | refine br_zn ?_ | refine br_on ?_ | refine nz2 ?_ | refine nz6 ?_ | refine nz32 ?_ | refine And.intro (by assumption) ?_))); (conv => whnf)
            refine hK D' r f1 ?_ ?_
            · rw [mw_act, if_neg hno, if_neg h2', if_pos h3]; exact f2
            · rw [mw_act, if_neg hno, if_neg h2', if_pos h3]; exact f3
          · rw [a16, nI_eq (by omega) (by omega)] at h3
            (repeat ((conv => whnf); (first | refine zo0 ?_ | refine zo1 ?_ | refine br_z ?_ | refine br_o ?_ | refine br_zn ?_ | refine br_on ?_ | refine nz2 ?_ | refine nz6 ?_ | refine nz32 ?_ | refine And.intro (by assumption) ?_))); (conv => whnf)
            refine ⟨w, g, P 3 (w 0 5), rfl, hdd, m1, h3, hw, fun D' r f1 f2 f3 => ?_⟩
            (repeat ((conv => whnf); (first | refine zo0 ?_ | refine zo1 ?_ | refine br_z ?_ | refine br_o ?_ | refine br_zn ?_ | refine br_on ?_ | refine nz2 ?_ | refine nz6 ?_ | refine nz32 ?_ | refine And.intro (by assumption) ?_))); (conv => whnf)
            refine hK D' r f1 ?_ ?_
            · rw [mw_act, if_neg hno, if_neg h2', if_neg h3]; exact f2
            · rw [mw_act, if_neg hno, if_neg h2', if_neg h3]; exact f3
        · rw [a18] at h2
          have h2z : w 0 3 = 0 := by
            rcases Nat.eq_zero_or_pos (w 0 3) with q | q
            · exact q
            · exact absurd h2 (nI_ne0 q (by omega))
          (repeat ((conv => whnf); (first | refine zo0 ?_ | refine zo1 ?_ | refine br_z ?_ | refine br_o ?_ | refine br_zn ?_ | refine br_on ?_ | refine nz2 ?_ | refine nz6 ?_ | refine nz32 ?_ | refine And.intro (by assumption) ?_))); (conv => whnf)
          refine ⟨P 3 (w 0 5), rfl, by omega, ?_⟩
          rw [x4, x1, pk_sub m9d.1]
          (repeat ((conv => whnf); (first | refine zo0 ?_ | refine zo1 ?_ | refine br_z ?_ | refine br_o ?_ | refine br_zn ?_ | refine br_on ?_ | refine nz2 ?_ | refine nz6 ?_ | refine nz32 ?_ | refine And.intro (by assumption) ?_))); (conv => whnf)
          refine ⟨fun h3 => ?_, fun h3 => ?_⟩
          · rw [← nI_0, nI_leI (by omega) (by omega)] at h3
            have h2' : ¬ (w 0 3 = 0 ∧ w 1 (P 3 (w 0 5)) < P 1 (P 3 (w 0 5))) := by omega
            (repeat ((conv => whnf); (first | refine zo0 ?_ | refine zo1 ?_ | refine br_z ?_ | refine br_o ?_ | refine br_zn ?_ | refine br_on ?_ | refine nz2 ?_ | refine nz6 ?_ | refine nz32 ?_ | refine And.intro (by assumption) ?_))); (conv => whnf)
            refine ⟨fun h3 => ?_, fun h3 => ?_⟩
            · rw [a16, nI_eq (by omega) (by omega)] at h3
              (repeat ((conv => whnf); (first | refine zo0 ?_ | refine zo1 ?_ | refine br_z ?_ | refine br_o ?_ | refine br_zn ?_ | refine br_on ?_ | refine nz2 ?_ | refine nz6 ?_ | refine nz32 ?_ | refine And.intro (by assumption) ?_))); (conv => whnf)
              refine ⟨P, w, g, P 3 (w 0 5), t, rfl, hdd, hP, hO, p3, x4, hw, fun D' r f1 f2 f3 => ?_⟩
              (repeat ((conv => whnf); (first | refine zo0 ?_ | refine zo1 ?_ | refine br_z ?_ | refine br_o ?_ | refine br_zn ?_ | refine br_on ?_ | refine nz2 ?_ | refine nz6 ?_ | refine nz32 ?_ | refine And.intro (by assumption) ?_))); (conv => whnf)
              refine hK D' r f1 ?_ ?_
              · rw [mw_act, if_neg hno, if_neg h2', if_pos h3]; exact f2
              · rw [mw_act, if_neg hno, if_neg h2', if_pos h3]; exact f3
            · rw [a16, nI_eq (by omega) (by omega)] at h3
              (repeat ((conv => whnf); (first | refine zo0 ?_ | refine zo1 ?_ | refine br_z ?_ | refine br_o ?_ | refine br_zn ?_ | refine br_on ?_ | refine nz2 ?_ | refine nz6 ?_ | refine nz32 ?_ | refine And.intro (by assumption) ?_))); (conv => whnf)
              refine ⟨w, g, P 3 (w 0 5), rfl, hdd, m1, h3, hw, fun D' r f1 f2 f3 => ?_⟩
              (repeat ((conv => whnf); (first | refine zo0 ?_ | refine zo1 ?_ | refine br_z ?_ | refine br_o ?_ | refine br_zn ?_ | refine br_on ?_ | refine nz2 ?_ | refine nz6 ?_ | refine nz32 ?_ | refine And.intro (by assumption) ?_))); (conv => whnf)
              refine hK D' r f1 ?_ ?_
              · rw [mw_act, if_neg hno, if_neg h2', if_neg h3]; exact f2
              · rw [mw_act, if_neg hno, if_neg h2', if_neg h3]; exact f3
          · rw [← nI_0, nI_leI (by omega) (by omega)] at h3
            have h2' : w 0 3 = 0 ∧ w 1 (P 3 (w 0 5)) < P 1 (P 3 (w 0 5)) := by omega
            (repeat ((conv => whnf); (first | refine zo0 ?_ | refine zo1 ?_ | refine br_z ?_ | refine br_o ?_ | refine br_zn ?_ | refine br_on ?_ | refine nz2 ?_ | refine nz6 ?_ | refine nz32 ?_ | refine And.intro (by assumption) ?_))); (conv => whnf)
            refine ⟨fun h3 => ?_, fun h3 => ?_⟩
            · rw [a16, a17, nI_eq (by omega) (by omega)] at h3
              (repeat ((conv => whnf); (first | refine zo0 ?_ | refine zo1 ?_ | refine br_z ?_ | refine br_o ?_ | refine br_zn ?_ | refine br_on ?_ | refine nz2 ?_ | refine nz6 ?_ | refine nz32 ?_ | refine And.intro (by assumption) ?_))); (conv => whnf)
              refine ⟨w, g, P 0 2, p3, q4, m3, h2z, hw, fun D' r f1 f2 f3 => ?_⟩
              (repeat ((conv => whnf); (first | refine zo0 ?_ | refine zo1 ?_ | refine br_z ?_ | refine br_o ?_ | refine br_zn ?_ | refine br_on ?_ | refine nz2 ?_ | refine nz6 ?_ | refine nz32 ?_ | refine And.intro (by assumption) ?_))); (conv => whnf)
              refine hK D' r f1 ?_ ?_
              · rw [mw_act, if_neg hno, if_pos h2', if_pos h3]; exact f2
              · rw [mw_act, if_neg hno, if_pos h2', if_pos h3]; exact f3
            · rw [a16, a17, nI_eq (by omega) (by omega)] at h3
              (repeat ((conv => whnf); (first | refine zo0 ?_ | refine zo1 ?_ | refine br_z ?_ | refine br_o ?_ | refine br_zn ?_ | refine br_on ?_ | refine nz2 ?_ | refine nz6 ?_ | refine nz32 ?_ | refine And.intro (by assumption) ?_))); (conv => whnf)
              refine ⟨w, g, w 0 1, a17, m2, m1, h3, hw, fun D' r f1 f2 f3 => ?_⟩
              (repeat ((conv => whnf); (first | refine zo0 ?_ | refine zo1 ?_ | refine br_z ?_ | refine br_o ?_ | refine br_zn ?_ | refine br_on ?_ | refine nz2 ?_ | refine nz6 ?_ | refine nz32 ?_ | refine And.intro (by assumption) ?_))); (conv => whnf)
              refine hK D' r f1 ?_ ?_
              · rw [mw_act, if_neg hno, if_pos h2', if_neg h3]; exact f2
              · rw [mw_act, if_neg hno, if_pos h2', if_neg h3]; exact f3
      · rw [a21, p1, nI_ltI (by omega) (by omega)] at hpl
        (repeat ((conv => whnf); (first | refine zo0 ?_ | refine zo1 ?_ | refine br_z ?_ | refine br_o ?_ | refine br_zn ?_ | refine br_on ?_ | refine nz2 ?_ | refine nz6 ?_ | refine nz32 ?_ | refine And.intro (by assumption) ?_))); (conv => whnf)
        exact rest (Or.inr (by omega))
  · exact absurd h id
theorem clM_does (l : Launch) : ∀ (a : Nat) (ins : Instr) (b dd : Nat), csM_does[a]? = some (ins, b, dd) → am_Call l yM_does.cls 2 ins b dd (fnM_does a) := by
  intro a ins b dd h
  match a, h with
  | 0, h => cases h; exact am_callV (T := F_11) (N := 52) (okM_wanting l) wcM_wanting (am_m5 (i := 146) rfl rfl) wiM_wanting wsM_wanting inM rfl (by decide) (by decide +kernel) (by decide) (by decide)
  | 1, h => cases h; exact am_callV (T := F_11) (N := 52) (okM_goes l) wcM_goes (am_m5 (i := 150) rfl rfl) wiM_goes wsM_goes inM rfl (by decide) (by decide +kernel) (by decide) (by decide)
  | 2, h => cases h; exact am_callV (T := F_11) (N := 52) (okM_fills l) wcM_fills (am_m5 (i := 154) rfl rfl) wiM_fills wsM_fills inM rfl (by decide) (by decide +kernel) (by decide) (by decide)
  | 3, h => cases h; exact am_callV (T := F_11) (N := 52) (okM_serves l) wcM_serves (am_m5 (i := 161) rfl rfl) wiM_serves wsM_serves inM rfl (by decide) (by decide +kernel) (by decide) (by decide)
  | k + 4, h => simp [csM_does] at h
theorem okM_does (l : Launch) : am_Ok l yM_does prog_13_method_34_code 4 (some .int) 2 spM_does := am_ok_of (by decide +kernel) flM_ok kiM_ok klM_ok ckM_does (clM_does l) wpM_does
def fnM_follows : Nat → am_Sp := fun a => match a with
  | 0 => spM_towards
  | _ => am_no
theorem mfM_follows : ∀ a, am_mono (fnM_follows a) := fun a => match a with
  | 0 => moM_towards
  | _ + 1 => am_no_mono
def spM_follows : am_Sp := fun as D L K => match as with
  | [.ref 49, .int y] => ∃ (P w : mw_T) (g : Int32) (t : Nat), D 49 13 = nI (P 0 1) ∧ P 0 1 ≤ 2 ∧ y = nI t ∧ t < 48 ∧ w 0 0 ≤ 11 ∧ w 0 1 ≤ 11 ∧ wm D w g ∧ ∀ D', fm D D' → wm D' (mw_drive P t w) g → K none D' L
  | _ => False
theorem moM_follows : am_mono spM_follows := by
  intro as D L K K' hK h
  unfold spM_follows at h ⊢
  split at h
  · obtain ⟨P, w, g, t, h1, h2, h3, h4, h5, h6, h7, h8⟩ := h
    exact ⟨P, w, g, t, h1, h2, h3, h4, h5, h6, h7, fun D' q1 q2 => hK _ _ _ (h8 D' q1 q2)⟩
  · exact h
theorem tw_same : ∀ a, a < 12 → mw_tw a a 1 = a := by decide +kernel
theorem wpM_follows : ∀ (as : List Value) (D : am_D) (L : am_L) (K : am_K), spM_follows as D L K → am_fit 4 as = true ∧ am_Wp false 0 cdM_follows fnM_follows K 0 (am_lo 4 as) [] D L := by
  intro as D L K h
  unfold spM_follows at h
  split at h
  · obtain ⟨P, w, g, t, hh0, hh, rfl, ht, hm, hc, hw, hK⟩ := h
    have hw' := hw
    obtain ⟨aL, a16, a17, a18, a19, a20, a21, a22, a23, a24, a25, a26, a27⟩ := hw'
    have goal1 : (P 0 1 = 1 ∧ (w 0 0 + 2 ≤ w 0 1 ∨ w 0 1 + 2 ≤ w 0 0)) ∨ (P 0 1 = 2 ∧ t % 2 = 0) → K none (am_up D 49 17 (nI (mw_tw (w 0 1) (w 0 0) 1))) L := by
      intro q
      refine hK _ (by repeat (first | exact fm_rf | refine fm_up (by decide) (by decide) ?_ | refine fm_upA (by decide) (by decide) ?_)) ?_
      rw [mw_drive, if_pos q]
      refine ⟨fun d hd => ?_, ?_⟩
      · obtain ⟨b1, b2, b3⟩ := aL d hd
        refine ⟨?_, ?_, ?_⟩ <;> simp [am_up, upd, up2, b1, b2, b3, nI_0, nc1, nc2, nc3, nc4]
      · refine ⟨?_, ?_, ?_, ?_, ?_, ?_, ?_, ?_, ?_, ?_, ?_, ?_⟩ <;> simp [am_up, upd, up2, a16, a17, a18, a19, a20, a21, a22, a23, a24, a25, a26, a27, nI_0, nc1, nc2, nc3, nc4]
    have goal2 : (¬ ((P 0 1 = 1 ∧ (w 0 0 + 2 ≤ w 0 1 ∨ w 0 1 + 2 ≤ w 0 0)) ∨ (P 0 1 = 2 ∧ t % 2 = 0)) ∨ w 0 0 = w 0 1) → K none (am_up D 49 17 (D 49 17)) L := by
      intro q
      refine hK _ (by repeat (first | exact fm_rf | refine fm_up (by decide) (by decide) ?_ | refine fm_upA (by decide) (by decide) ?_)) ?_
      have e : mw_drive P t w 0 1 = w 0 1 := by
        rcases q with q | q
        · rw [mw_drive, if_neg q]
        · unfold mw_drive
          split
          · rw [q, tw_same _ (by omega)]; simp [up2]
          · rfl
      have e2 : ∀ j, j ≠ 1 → mw_drive P t w 0 j = w 0 j := by
        intro j hj
        unfold mw_drive
        split
        · simp [up2, hj]
        · rfl
      have e3 : ∀ c, c ≠ 0 → mw_drive P t w c = w c := by
        intro j hj
        unfold mw_drive
        split
        · simp [up2, hj]
        · rfl
      refine ⟨fun d hd => ?_, ?_⟩
      · rw [e3 1 (by decide), e3 2 (by decide), e3 3 (by decide)]
        have := aL d hd
        simpa [am_up, upd] using this
      · refine ⟨?_, ?_, ?_, ?_, ?_, ?_, ?_, ?_, ?_, ?_, ?_, ?_⟩ <;> simp [am_up, upd, e, e2, a16, a17, a18, a19, a20, a21, a22, a23, a24, a25, a26, a27]
    have e1 : nI (P 0 1) = 1 ↔ P 0 1 = 1 := by rw [← nc1, nI_eq (by omega) (by omega)]
    have e2 : nI (P 0 1) = 2 ↔ P 0 1 = 2 := by rw [← nc2, nI_eq (by omega) (by omega)]
    have e4 := even2 t ht
    -- how far
    have far : ∀ x : Int32, (∃ f : Nat, x = nI f ∧ f ≤ 11 ∧ (w 0 0 + f = w 0 1 ∨ w 0 1 + f = w 0 0)) → am_Wp false 0 cdM_follows fnM_follows K 32 [some (.ref 49), some (.int (nI t)), none, none] [.int x] D L := by
      intro x hx
      obtain ⟨f, rfl, hf, hff⟩ := hx
      refine am_Wp_bl mfM_follows [] 60 _ _ _ _ _ ?_
      (repeat ((conv => whnf); (first | refine zo0 ?_ | refine zo1 ?_ | refine br_z ?_ | refine br_o ?_ | refine br_zn ?_ | refine br_on ?_ | refine nz2 ?_ | refine nz6 ?_ | refine nz32 ?_ | refine And.intro (by assumption) ?_))); (conv => whnf)
      rw [hh0]
      refine ⟨fun h1 => ?_, fun h1 => ?_⟩
      · rw [e1] at h1
        (repeat ((conv => whnf); (first | refine zo0 ?_ | refine zo1 ?_ | refine br_z ?_ | refine br_o ?_ | refine br_zn ?_ | refine br_on ?_ | refine nz2 ?_ | refine nz6 ?_ | refine nz32 ?_ | refine And.intro (by assumption) ?_))); (conv => whnf)
        rw [hh0]
        refine ⟨fun h2 => ?_, fun h2 => ?_⟩
        · rw [e2] at h2
          (repeat ((conv => whnf); (first | refine zo0 ?_ | refine zo1 ?_ | refine br_z ?_ | refine br_o ?_ | refine br_zn ?_ | refine br_on ?_ | refine nz2 ?_ | refine nz6 ?_ | refine nz32 ?_ | refine And.intro (by assumption) ?_))); (conv => whnf)
          exact goal2 (Or.inl (by omega))
        · rw [e2] at h2
          (repeat ((conv => whnf); (first | refine zo0 ?_ | refine zo1 ?_ | refine br_z ?_ | refine br_o ?_ | refine br_zn ?_ | refine br_on ?_ | refine nz2 ?_ | refine nz6 ?_ | refine nz32 ?_ | refine And.intro (by assumption) ?_))); (conv => whnf)
          refine ⟨fun h3 => ?_, fun h3 => ?_⟩
          · rw [e4] at h3
            (repeat ((conv => whnf); (first | refine zo0 ?_ | refine zo1 ?_ | refine br_z ?_ | refine br_o ?_ | refine br_zn ?_ | refine br_on ?_ | refine nz2 ?_ | refine nz6 ?_ | refine nz32 ?_ | refine And.intro (by assumption) ?_))); (conv => whnf)
            exact goal2 (Or.inl (by omega))
          · rw [e4] at h3
            (repeat ((conv => whnf); (first | refine zo0 ?_ | refine zo1 ?_ | refine br_z ?_ | refine br_o ?_ | refine br_zn ?_ | refine br_on ?_ | refine nz2 ?_ | refine nz6 ?_ | refine nz32 ?_ | refine And.intro (by assumption) ?_))); (conv => whnf)
            refine ⟨fun h4 => ?_, fun h4 => ?_⟩
            · rw [← nc1, nI_ltI (by omega) (by omega)] at h4
              (repeat ((conv => whnf); (first | refine zo0 ?_ | refine zo1 ?_ | refine br_z ?_ | refine br_o ?_ | refine br_zn ?_ | refine br_on ?_ | refine nz2 ?_ | refine nz6 ?_ | refine nz32 ?_ | refine And.intro (by assumption) ?_))); (conv => whnf)
              exact goal2 (Or.inr (by omega))
            · (repeat ((conv => whnf); (first | refine zo0 ?_ | refine zo1 ?_ | refine br_z ?_ | refine br_o ?_ | refine br_zn ?_ | refine br_on ?_ | refine nz2 ?_ | refine nz6 ?_ | refine nz32 ?_ | refine And.intro (by assumption) ?_))); (conv => whnf)
              refine ⟨w 0 1, w 0 0, a17, a16, hc, hm, ?_⟩
              (repeat ((conv => whnf); (first | refine zo0 ?_ | refine zo1 ?_ | refine br_z ?_ | refine br_o ?_ | refine br_zn ?_ | refine br_on ?_ | refine nz2 ?_ | refine nz6 ?_ | refine nz32 ?_ | refine And.intro (by assumption) ?_))); (conv => whnf)
              exact goal1 (Or.inr ⟨h2, h3⟩)
      · rw [e1] at h1
        (repeat ((conv => whnf); (first | refine zo0 ?_ | refine zo1 ?_ | refine br_z ?_ | refine br_o ?_ | refine br_zn ?_ | refine br_on ?_ | refine nz2 ?_ | refine nz6 ?_ | refine nz32 ?_ | refine And.intro (by assumption) ?_))); (conv => whnf)
        refine ⟨fun h2 => ?_, fun h2 => ?_⟩
        · rw [← nc2, nI_leI (by omega) (by omega)] at h2
          (repeat ((conv => whnf); (first | refine zo0 ?_ | refine zo1 ?_ | refine br_z ?_ | refine br_o ?_ | refine br_zn ?_ | refine br_on ?_ | refine nz2 ?_ | refine nz6 ?_ | refine nz32 ?_ | refine And.intro (by assumption) ?_))); (conv => whnf)
          refine ⟨w 0 1, w 0 0, a17, a16, hc, hm, ?_⟩
          (repeat ((conv => whnf); (first | refine zo0 ?_ | refine zo1 ?_ | refine br_z ?_ | refine br_o ?_ | refine br_zn ?_ | refine br_on ?_ | refine nz2 ?_ | refine nz6 ?_ | refine nz32 ?_ | refine And.intro (by assumption) ?_))); (conv => whnf)
          exact goal1 (Or.inl ⟨h1, by omega⟩)
        · rw [← nc2, nI_leI (by omega) (by omega)] at h2
          (repeat ((conv => whnf); (first | refine zo0 ?_ | refine zo1 ?_ | refine br_z ?_ | refine br_o ?_ | refine br_zn ?_ | refine br_on ?_ | refine nz2 ?_ | refine nz6 ?_ | refine nz32 ?_ | refine And.intro (by assumption) ?_))); (conv => whnf)
          rw [hh0]
          refine ⟨fun h3 => ?_, fun h3 => ?_⟩
          · (repeat ((conv => whnf); (first | refine zo0 ?_ | refine zo1 ?_ | refine br_z ?_ | refine br_o ?_ | refine br_zn ?_ | refine br_on ?_ | refine nz2 ?_ | refine nz6 ?_ | refine nz32 ?_ | refine And.intro (by assumption) ?_))); (conv => whnf)
            exact goal2 (Or.inl (by omega))
          · rw [e2] at h3
            omega
    refine ⟨rfl, am_Wp_bl mfM_follows [32] 60 _ _ _ _ _ ?_⟩
    (repeat ((conv => whnf); (first | refine zo0 ?_ | refine zo1 ?_ | refine br_z ?_ | refine br_o ?_ | refine br_zn ?_ | refine br_on ?_ | refine nz2 ?_ | refine nz6 ?_ | refine nz32 ?_ | refine And.intro (by assumption) ?_))); (conv => whnf)
    refine ⟨fun h1 => ?_, fun h1 => ?_⟩
    · rw [a16, a17, nI_leI (by omega) (by omega)] at h1
      (repeat ((conv => whnf); (first | refine zo0 ?_ | refine zo1 ?_ | refine br_z ?_ | refine br_o ?_ | refine br_zn ?_ | refine br_on ?_ | refine nz2 ?_ | refine nz6 ?_ | refine nz32 ?_ | refine And.intro (by assumption) ?_))); (conv => whnf)
      exact far _ ⟨w 0 0 - w 0 1, by rw [a16, a17, pk_sub h1], by omega, by omega⟩
    · rw [a16, a17, nI_leI (by omega) (by omega)] at h1
      (repeat ((conv => whnf); (first | refine zo0 ?_ | refine zo1 ?_ | refine br_z ?_ | refine br_o ?_ | refine br_zn ?_ | refine br_on ?_ | refine nz2 ?_ | refine nz6 ?_ | refine nz32 ?_ | refine And.intro (by assumption) ?_))); (conv => whnf)
      exact far _ ⟨w 0 1 - w 0 0, by rw [a16, a17, pk_sub (by omega)], by omega, by omega⟩
  · exact absurd h id
theorem clM_follows (l : Launch) : ∀ (a : Nat) (ins : Instr) (b dd : Nat), csM_follows[a]? = some (ins, b, dd) → am_Call l yM_follows.cls 1 ins b dd (fnM_follows a) := by
  intro a ins b dd h
  match a, h with
  | 0, h => cases h; exact am_callS (okM_towards l) wcM_towards (am_m5 (i := 139) rfl rfl) wtM_towards inM (by decide +kernel) (by decide) (by decide)
  | k + 1, h => simp [csM_follows] at h
theorem okM_follows (l : Launch) : am_Ok l yM_follows prog_13_method_35_code 4 none 1 spM_follows := am_ok_of (by decide +kernel) flM_ok kiM_ok klM_ok ckM_follows (clM_follows l) wpM_follows
