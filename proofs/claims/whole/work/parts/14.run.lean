def fnW_breakOne : Nat → am_Sp := fun a => match a with
  | 0 => spX_isDoor
  | _ => am_no
theorem mfW_breakOne : ∀ a, am_mono (fnW_breakOne a) := fun a => match a with
  | 0 => moX_isDoor
  | _ + 1 => am_no_mono
def spW_breakOne : am_Sp := am_ini cdW_breakOne fnW_breakOne 27 2
theorem moW_breakOne : am_mono spW_breakOne := am_ini_mono mfW_breakOne
theorem wpW_breakOne : ∀ (as : List Value) (D : am_D) (L : am_L) (K : am_K), spW_breakOne as D L K → am_fit 2 as = true ∧ am_Wp false 0 cdW_breakOne fnW_breakOne K 0 (am_lo 2 as) [] D L := am_ini_Wp mfW_breakOne
theorem clW_breakOne (l : Launch) : ∀ (a : Nat) (ins : Instr) (b dd : Nat), csW_breakOne[a]? = some (ins, b, dd) → am_Call l yW_breakOne.cls 1 ins b dd (fnW_breakOne a) := by
  intro a ins b dd h
  match a, h with
  | 0, h => cases h; exact am_callSN (okX_isDoor l) wcX_isDoor (am_n3 (i := 52) rfl rfl) wtX_isDoor inX (by decide +kernel) (by decide) (by decide)
  | k + 1, h => simp [csW_breakOne] at h
theorem okW_breakOne (l : Launch) : am_Ok l yW_breakOne prog_11_method_5_code 2 none 1 spW_breakOne := am_ok_of (by decide +kernel) flW_ok kiW_ok klW_ok ckW_breakOne (clW_breakOne l) wpW_breakOne
def fnW_befall : Nat → am_Sp := fun a => match a with
  | 0 => spW_pullCart
  | 1 => spW_breakOne
  | _ => am_no
theorem mfW_befall : ∀ a, am_mono (fnW_befall a) := fun a => match a with
  | 0 => moW_pullCart
  | 1 => moW_breakOne
  | _ + 2 => am_no_mono
def spW_befall : am_Sp := fun as D L K => match as with
  | [.ref 22, .int a, .ref 7, .int x] => ∃ (P E w : mw_T) (pr : Nat → Bool) (t n : Nat), x = nI t ∧ t < 48 ∧ mw_eok E ∧ mw_ok P n w ∧ mw_pok P ∧ ex D E ∧ prx a pr ∧ (∃ g, wx D w g) ∧ ∀ D', fr 22 25 D D' → wx D' (mw_bef E pr t w (E 0 0)).1 (mw_bef E pr t w (E 0 0)).2 → K none D' L
  | _ => False
theorem moW_befall : am_mono spW_befall := by
  intro as D L K K' hK h
  unfold spW_befall at h ⊢
  split at h
  · obtain ⟨P, E, w, pr, t, n, h1, h2, h3, h4, h4', h5, h6, h7, h8⟩ := h
    exact ⟨P, E, w, pr, t, n, h1, h2, h3, h4, h4', h5, h6, h7, fun D' q1 q2 => hK _ _ _ (h8 D' q1 q2)⟩
  · exact h
theorem mw_ev_no {E : mw_T} {pr : Nat → Bool} {t i : Nat} {s : mw_T × Int32} (h : ¬ (E 2 i = t ∧ pr i = true)) : mw_ev E pr t i s = s := by rw [mw_ev, if_neg h]
theorem wpW_befall : ∀ (as : List Value) (D : am_D) (L : am_L) (K : am_K), spW_befall as D L K → am_fit 7 as = true ∧ am_Wp false 0 cdW_befall fnW_befall K 0 (am_lo 7 as) [] D L := by
  intro as D L K h
  unfold spW_befall at h
  split at h
  · rename_i a x
    obtain ⟨P, E, w, pr, t, n, rfl, ht, hE, hO, hPk, hex, hpr, ⟨g0, hw0⟩, hK⟩ := h
    have loop : ∀ (m i : Nat) (D' : am_D) (k5 k6 : Option Value), i + m = E 0 0 → fr 22 25 D D' → wx D' (mw_bef E pr t w i).1 (mw_bef E pr t w i).2 → am_Wp false 0 cdW_befall fnW_befall K 8 [some (.ref 22), some (.int a), some (.ref 7), some (.int (nI t)), some (.int (nI i)), k5, k6] [] D' L := by
      intro m
      induction m with
      | zero =>
        intro i D' k5 k6 hi hf hw
        have e7 : D' 7 = D 7 := hf 7 (by omega)
        refine am_Wp_bl mfW_befall [8] 20 _ _ _ _ _ ?_
        (repeat ((conv => whnf); (first | refine zo0 ?_ | refine zo1 ?_ | refine br_z ?_ | refine br_o ?_ | refine br_zn ?_ | refine br_on ?_ | refine nz2 ?_ | refine nz6 ?_ | refine nz32 ?_ | refine And.intro (by assumption) ?_))); (conv => whnf)
        refine ⟨fun h1 => ?_, fun h1 => ?_⟩
        · (repeat ((conv => whnf); (first | refine zo0 ?_ | refine zo1 ?_ | refine br_z ?_ | refine br_o ?_ | refine br_zn ?_ | refine br_on ?_ | refine nz2 ?_ | refine nz6 ?_ | refine nz32 ?_ | refine And.intro (by assumption) ?_))); (conv => whnf)
          rw [show i = E 0 0 by omega] at hw
          exact hK D' hf hw
        · rw [e7, hex.1] at h1
          exact absurd (nI_le (by omega) (by have := hE.1; omega)) h1
      | succ m ih =>
        intro i D' k5 k6 hi hf hw
        have hn8 := hE.1
        have hE2 := hE.2 i (by omega)
        have hx2 := hex.2 i (by omega)
        have e7 : D' 7 = D 7 := hf 7 (by omega)
        have e8 : D' 8 = D 8 := hf 8 (by omega)
        have e9 : D' 9 = D 9 := hf 9 (by omega)
        have e10 : D' 10 = D 10 := hf 10 (by omega)
        have ec : (nI i).toNatClampNeg = i := nI_clamp (by omega)
        have hin : vp_in (nI i) 8 := vp_in_nI (by omega) (by decide)
        have hok : mw_ok P n (mw_bef E pr t w i).1 := mw_bef_ok hE hO i (by omega)
        have hnext : mw_bef E pr t w (i + 1) = mw_ev E pr t i (mw_bef E pr t w i) := rfl
        refine am_Wp_bl mfW_befall [8] 120 _ _ _ _ _ ?_
        (repeat ((conv => whnf); (first | refine zo0 ?_ | refine zo1 ?_ | refine br_z ?_ | refine br_o ?_ | refine br_zn ?_ | refine br_on ?_ | refine nz2 ?_ | refine nz6 ?_ | refine nz32 ?_ | refine And.intro (by assumption) ?_))); (conv => whnf)
        refine ⟨fun h1 => ?_, fun h1 => ?_⟩
        · rw [e7, hex.1] at h1
          exact absurd h1 (nI_ge (by omega) (by omega))
        (repeat ((conv => whnf); (first | refine zo0 ?_ | refine zo1 ?_ | refine br_z ?_ | refine br_o ?_ | refine br_zn ?_ | refine br_on ?_ | refine nz2 ?_ | refine nz6 ?_ | refine nz32 ?_ | refine And.intro (by assumption) ?_))); (conv => whnf)
        refine ⟨fun h2 => absurd h2 (nI_ge (b := 8) (by omega) (by omega)), fun h2 => ?_⟩
        (repeat ((conv => whnf); (first | refine zo0 ?_ | refine zo1 ?_ | refine br_z ?_ | refine br_o ?_ | refine br_zn ?_ | refine br_on ?_ | refine nz2 ?_ | refine nz6 ?_ | refine nz32 ?_ | refine And.intro (by assumption) ?_))); (conv => whnf)
        have skip : ¬ (E 2 i = t ∧ pr i = true) → ∀ k5 k6 : Option Value, am_Wp false 0 cdW_befall fnW_befall K 8 [some (.ref 22), some (.int a), some (.ref 7), some (.int (nI t)), some (.int (nI i + 1)), k5, k6] [] D' L := by
          intro q k5 k6
          rw [nI_1]
          refine ih (i + 1) D' k5 k6 (by omega) hf ?_
          rw [hnext, mw_ev_no q]
          exact hw
        refine ⟨fun h3 => ?_, fun h3 => ?_⟩
        · rw [ec, e9, hx2.2.1, nI_eq (by omega) (by omega)] at h3
          (repeat ((conv => whnf); (first | refine zo0 ?_ | refine zo1 ?_ | refine br_z ?_ | refine br_o ?_ | refine br_zn ?_ | refine br_on ?_ | refine nz2 ?_ | refine nz6 ?_ | refine nz32 ?_ | refine And.intro (by assumption) ?_))); (conv => whnf)
          exact skip (fun q => h3 q.1) k5 k6
        rw [ec, e9, hx2.2.1, nI_eq (by omega) (by omega)] at h3
        have hp := hpr i (by omega)
        (repeat ((conv => whnf); (first | refine zo0 ?_ | refine zo1 ?_ | refine br_z ?_ | refine br_o ?_ | refine br_zn ?_ | refine br_on ?_ | refine nz2 ?_ | refine nz6 ?_ | refine nz32 ?_ | refine And.intro (by assumption) ?_))); (conv => whnf)
        refine ⟨fun h4 => ?_, fun h4 => ?_⟩
        · have hc : E 2 i = t ∧ pr i = true := ⟨h3, by rw [hp]; exact decide_eq_true h4⟩
          obtain ⟨w1, g1⟩ : ∃ w1 : mw_T, (mw_bef E pr t w i).1 = w1 := ⟨_, rfl⟩
          obtain ⟨gg, g2⟩ : ∃ gg : Int32, (mw_bef E pr t w i).2 = gg := ⟨_, rfl⟩
          rw [g1, g2] at hw
          rw [g1] at hok
          have hw' := hw
          obtain ⟨aL, a4, a5, a6, a7, a8, a9, a10, a11, a13, a14, a15, a16⟩ := hw
          obtain ⟨m1, m2, m3, m4, m5, m6, m7, m8, m9⟩ := hok
          obtain ⟨q1, q2, q3, q4, q5, q6, q7⟩ := hPk
          (repeat ((conv => whnf); (first | refine zo0 ?_ | refine zo1 ?_ | refine br_z ?_ | refine br_o ?_ | refine br_zn ?_ | refine br_on ?_ | refine nz2 ?_ | refine nz6 ?_ | refine nz32 ?_ | refine And.intro (by assumption) ?_))); (conv => whnf)
          refine ⟨fun h5 => ?_, fun h5 => ?_⟩
          · rw [ec, e8, hx2.1] at h5
            have h5' : ¬ E 1 i = 0 := fun q => h5 (by rw [q, nI_0])
            (repeat ((conv => whnf); (first | refine zo0 ?_ | refine zo1 ?_ | refine br_z ?_ | refine br_o ?_ | refine br_zn ?_ | refine br_on ?_ | refine nz2 ?_ | refine nz6 ?_ | refine nz32 ?_ | refine And.intro (by assumption) ?_))); (conv => whnf)
            refine ⟨fun h6 => ?_, fun h6 => ?_⟩
            · rw [ec, e8, hx2.1, ← nc1, nI_eq (by omega) (by omega)] at h6
              have h62 : E 1 i = 2 := by omega
              (repeat ((conv => whnf); (first | refine zo0 ?_ | refine zo1 ?_ | refine br_z ?_ | refine br_o ?_ | refine br_zn ?_ | refine br_on ?_ | refine nz2 ?_ | refine nz6 ?_ | refine nz32 ?_ | refine And.intro (by assumption) ?_))); (conv => whnf)
              refine ⟨fun h7 => ?_, fun h7 => ?_⟩
              · rw [ec, e8, hx2.1, ← nc2, nI_eq (by omega) (by omega)] at h7
                exact absurd h62 h7
              · (repeat ((conv => whnf); (first | refine zo0 ?_ | refine zo1 ?_ | refine br_z ?_ | refine br_o ?_ | refine br_zn ?_ | refine br_on ?_ | refine nz2 ?_ | refine nz6 ?_ | refine nz32 ?_ | refine And.intro (by assumption) ?_))); (conv => whnf)
                refine ⟨fun _ => ?_, fun q => absurd (by rw [ec, e10, hx2.2.2]; exact isd_nI (by omega)) q⟩
                have hin2 : vp_in (D' 10 (nI i).toNatClampNeg) 12 := by rw [ec, e10, hx2.2.2]; exact vp_in_nI (by omega) (by decide)
                have ec2 : (D' 10 (nI i).toNatClampNeg).toNatClampNeg = E 3 i := by rw [ec, e10, hx2.2.2]; exact nI_clamp (by omega)
                obtain ⟨dd, hdd⟩ : ∃ dd : Nat, E 3 i = dd := ⟨_, rfl⟩
                have x2 := (aL dd (by omega)).2.1
                (repeat ((conv => whnf); (first | refine zo0 ?_ | refine zo1 ?_ | refine br_z ?_ | refine br_o ?_ | refine br_zn ?_ | refine br_on ?_ | refine nz2 ?_ | refine nz6 ?_ | refine nz32 ?_ | refine And.intro (by assumption) ?_))); (conv => whnf)
                refine ⟨fun h8 => ?_, fun h8 => ?_⟩
                · rw [ec2, hdd, x2] at h8
                  have h8' : 0 < w1 2 dd := by
                    rcases Nat.eq_zero_or_pos (w1 2 dd) with q | q
                    · rw [q, nI_0] at h8; exact absurd rfl h8
                    · exact q
                  (repeat ((conv => whnf); (first | refine zo0 ?_ | refine zo1 ?_ | refine br_z ?_ | refine br_o ?_ | refine br_zn ?_ | refine br_on ?_ | refine nz2 ?_ | refine nz6 ?_ | refine nz32 ?_ | refine And.intro (by assumption) ?_))); (conv => whnf)
                  have ew : mw_bef E pr t w (i + 1) = (up2 (up2 w1 2 dd (w1 2 dd - 1)) 0 10 (w1 0 10 + 1), gg) := by
                    rw [hnext, mw_ev, if_pos hc, if_neg h5', if_neg h6, hdd, g1, if_pos h8', g2]
                  have es : nI (w1 2 dd) - 1 = nI (w1 2 dd - 1) := nI_sub1 h8'
                  rw [nI_1]
                  refine ih (i + 1) _ _ _ (by omega) (fr_tr hf (by repeat (first | exact fr_rf | refine fr_up (by decide) (by decide) ?_ | refine fr_upA (by decide) (by decide) ?_))) ?_
                  rw [ew]
                  refine ⟨fun d hd => ?_, ?_⟩
                  · obtain ⟨b1, b2, b3⟩ := aL d hd
                    by_cases ed : d = dd
                    · subst ed
                      refine ⟨?_, ?_, ?_⟩ <;> simp [am_up, upd, up2, ec2, hdd, x2, es, nI_1, a4, a5, a6, a7, a8, a9, a10, a11, a13, a14, a15, a16, b1, b2, b3, nI_0, nc1, nc2, nc3, nc4]
                    · refine ⟨?_, ?_, ?_⟩ <;> simp [am_up, upd, up2, ec2, hdd, x2, es, nI_1, ed, b1, b2, b3, nI_0, nc1, nc2, nc3, nc4]
                  · refine ⟨?_, ?_, ?_, ?_, ?_, ?_, ?_, ?_, ?_, ?_, ?_, ?_⟩ <;> simp [am_up, upd, up2, ec2, hdd, x2, es, nI_1, a4, a5, a6, a7, a8, a9, a10, a11, a13, a14, a15, a16, nI_0, nc1, nc2, nc3, nc4]
                · rw [ec2, hdd, x2] at h8
                  have h8' : ¬ 0 < w1 2 dd := by
                    intro q
                    have := m9 dd (by omega)
                    have := q6 dd (by omega)
                    exact absurd h8 (nI_ne0 q (by omega))
                  (repeat ((conv => whnf); (first | refine zo0 ?_ | refine zo1 ?_ | refine br_z ?_ | refine br_o ?_ | refine br_zn ?_ | refine br_on ?_ | refine nz2 ?_ | refine nz6 ?_ | refine nz32 ?_ | refine And.intro (by assumption) ?_))); (conv => whnf)
                  have ew : mw_bef E pr t w (i + 1) = mw_bef E pr t w i := by
                    rw [hnext, mw_ev, if_pos hc, if_neg h5', if_neg h6, hdd, g1, if_neg h8']
                  rw [nI_1]
                  refine ih (i + 1) _ _ _ (by omega) hf ?_
                  rw [ew, g1, g2]
                  exact hw'
            · rw [ec, e8, hx2.1, ← nc1, nI_eq (by omega) (by omega)] at h6
              (repeat ((conv => whnf); (first | refine zo0 ?_ | refine zo1 ?_ | refine br_z ?_ | refine br_o ?_ | refine br_zn ?_ | refine br_on ?_ | refine nz2 ?_ | refine nz6 ?_ | refine nz32 ?_ | refine And.intro (by assumption) ?_))); (conv => whnf)
              refine ⟨w1, gg, 3, Or.inr ⟨rfl, rfl⟩, m1, m2, hw', fun D'' f1 f2 f3 => ?_⟩
              have ew : mw_bef E pr t w (i + 1) = (up2 w1 0 1 (mw_tw (w1 0 1) (w1 0 0) 3), gg) := by
                rw [hnext, mw_ev, if_pos hc, if_neg h5', if_pos h6, g1, g2]
              (repeat ((conv => whnf); (first | refine zo0 ?_ | refine zo1 ?_ | refine br_z ?_ | refine br_o ?_ | refine br_zn ?_ | refine br_on ?_ | refine nz2 ?_ | refine nz6 ?_ | refine nz32 ?_ | refine And.intro (by assumption) ?_))); (conv => whnf)
              rw [nI_1]
              refine ih (i + 1) _ _ _ (by omega) (fr_tr hf f1) ?_
              rw [ew]
              exact f3
          · rw [ec, e8, hx2.1] at h5
            have h5' : E 1 i = 0 := by
              rcases Nat.eq_zero_or_pos (E 1 i) with q | q
              · exact q
              · exact absurd h5 (nI_ne0 q (by omega))
            (repeat ((conv => whnf); (first | refine zo0 ?_ | refine zo1 ?_ | refine br_z ?_ | refine br_o ?_ | refine br_zn ?_ | refine br_on ?_ | refine nz2 ?_ | refine nz6 ?_ | refine nz32 ?_ | refine And.intro (by assumption) ?_))); (conv => whnf)
            have ew : mw_bef E pr t w (i + 1) = (w1, gg ||| ((1 : Int32) <<< (nI (E 3 i) &&& 31))) := by
              rw [hnext, mw_ev, if_pos hc, if_pos h5', g1, g2]
            rw [nI_1]
            refine ih (i + 1) _ _ _ (by omega) (fr_tr hf (by repeat (first | exact fr_rf | refine fr_up (by decide) (by decide) ?_ | refine fr_upA (by decide) (by decide) ?_))) ?_
            rw [ew]
            refine ⟨fun d hd => ?_, ?_⟩
            · obtain ⟨b1, b2, b3⟩ := aL d hd
              refine ⟨?_, ?_, ?_⟩ <;> simp [am_up, upd, up2, ec, e10, hx2, b1, b2, b3, nI_0, nc1, nc2, nc3, nc4]
            · refine ⟨?_, ?_, ?_, ?_, ?_, ?_, ?_, ?_, ?_, ?_, ?_, ?_⟩ <;> simp [am_up, upd, up2, ec, e10, hx2, a4, a5, a6, a7, a8, a9, a10, a11, a13, a14, a15, a16, nI_0, nc1, nc2, nc3, nc4]
        · have hc : ¬ (E 2 i = t ∧ pr i = true) := fun q => by rw [hp] at q; exact h4 (of_decide_eq_true q.2)
          (repeat ((conv => whnf); (first | refine zo0 ?_ | refine zo1 ?_ | refine br_z ?_ | refine br_o ?_ | refine br_zn ?_ | refine br_on ?_ | refine nz2 ?_ | refine nz6 ?_ | refine nz32 ?_ | refine And.intro (by assumption) ?_))); (conv => whnf)
          exact skip hc k5 k6
    refine ⟨rfl, am_Wp_bl mfW_befall [8] 20 _ _ _ _ _ ?_⟩
    (repeat ((conv => whnf); (first | refine zo0 ?_ | refine zo1 ?_ | refine br_z ?_ | refine br_o ?_ | refine br_zn ?_ | refine br_on ?_ | refine nz2 ?_ | refine nz6 ?_ | refine nz32 ?_ | refine And.intro (by assumption) ?_))); (conv => whnf)
    refine loop (E 0 0) 0 _ none none (by omega) (by repeat (first | exact fr_rf | refine fr_up (by decide) (by decide) ?_ | refine fr_upA (by decide) (by decide) ?_)) ?_
    obtain ⟨aL, a4, a5, a6, a7, a8, a9, a10, a11, a13, a14, a15, a16⟩ := hw0
    refine ⟨fun d hd => ?_, ?_⟩
    · obtain ⟨b1, b2, b3⟩ := aL d hd
      refine ⟨?_, ?_, ?_⟩ <;> simp [am_up, upd, mw_bef, b1, b2, b3, nI_0, nc1, nc2, nc3, nc4]
    · refine ⟨?_, ?_, ?_, ?_, ?_, ?_, ?_, ?_, ?_, ?_, ?_, ?_⟩ <;> simp [am_up, upd, mw_bef, a4, a5, a6, a7, a8, a9, a10, a11, a13, a14, a15, a16, nI_0, nc1, nc2, nc3, nc4]
  · exact absurd h id
theorem clW_befall (l : Launch) : ∀ (a : Nat) (ins : Instr) (b dd : Nat), csW_befall[a]? = some (ins, b, dd) → am_Call l yW_befall.cls 2 ins b dd (fnW_befall a) := by
  intro a ins b dd h
  match a, h with
  | 0, h => cases h; exact am_callV (T := F_9) (N := 17) (okW_pullCart l) wcW_pullCart (am_m3 (i := 38) rfl rfl) wiW_pullCart wsW_pullCart inW rfl (by decide) (by decide +kernel) (by decide) (by decide)
  | 1, h => cases h; exact am_callV (T := F_9) (N := 17) (okW_breakOne l) wcW_breakOne (am_m3 (i := 48) rfl rfl) wiW_breakOne wsW_breakOne inW rfl (by decide) (by decide +kernel) (by decide) (by decide)
  | k + 2, h => simp [csW_befall] at h
theorem okW_befall (l : Launch) : am_Ok l yW_befall prog_11_method_4_code 7 none 2 spW_befall := am_ok_of (by decide +kernel) flW_ok kiW_ok klW_ok ckW_befall (clW_befall l) wpW_befall
