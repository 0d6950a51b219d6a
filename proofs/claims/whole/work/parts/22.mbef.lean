def fnM_befalls : Nat → am_Sp := fun a => match a with
  | 0 => spM_isIn
  | 1 => spM_towards
  | _ => am_no
theorem mfM_befalls : ∀ a, am_mono (fnM_befalls a) := fun a => match a with
  | 0 => moM_isIn
  | 1 => moM_towards
  | _ + 2 => am_no_mono
def spM_befalls : am_Sp := fun as D L K => match as with
  | [.ref 49, .int x] => ∃ (P E w : mw_T) (pr : Nat → Bool) (t n : Nat), x = nI t ∧ t < 48 ∧ mw_eok E ∧ mw_ok P n w ∧ mw_pok P ∧ em D E ∧ prx (D 49 15) pr ∧ (∃ g, wm D w g) ∧ ∀ D', fm D D' → wm D' (mw_bef E pr t w (E 0 0)).1 (mw_bef E pr t w (E 0 0)).2 → K none D' L
  | _ => False
theorem moM_befalls : am_mono spM_befalls := by
  intro as D L K K' hK h
  unfold spM_befalls at h ⊢
  split at h
  · obtain ⟨P, E, w, pr, t, n, h1, h2, h3, h4, h4', h5, h6, h7, h8⟩ := h
    exact ⟨P, E, w, pr, t, n, h1, h2, h3, h4, h4', h5, h6, h7, fun D' q1 q2 => hK _ _ _ (h8 D' q1 q2)⟩
  · exact h
theorem or0 (x : Int32) : x ||| 0 = x := by
  apply Int32.toBitVec_inj.mp
  rw [Int32.toBitVec_or]
  simp
theorem wpM_befalls : ∀ (as : List Value) (D : am_D) (L : am_L) (K : am_K), spM_befalls as D L K → am_fit 5 as = true ∧ am_Wp false 0 cdM_befalls fnM_befalls K 0 (am_lo 5 as) [] D L := by
  intro as D L K h
  unfold spM_befalls at h
  split at h
  · rename_i x
    obtain ⟨P, E, w, pr, t, n, rfl, ht, hE, hO, hPk, hex, hpr, ⟨g0, hw0⟩, hK⟩ := h
    have loop : ∀ (m i : Nat) (D' : am_D) (k3 k4 : Option Value), i + m = E 0 0 → fm D D' → wm D' (mw_bef E pr t w i).1 (mw_bef E pr t w i).2 → am_Wp false 0 cdM_befalls fnM_befalls K 7 [some (.ref 49), some (.int (nI t)), some (.int (nI i)), k3, k4] [] D' L := by
      intro m
      induction m with
      | zero =>
        intro i D' k3 k4 hi hf hw
        have e7 : D' 49 7 = D 49 7 := hf.2 7 (by omega)
        refine am_Wp_bl mfM_befalls [7] 20 _ _ _ _ _ ?_
        (repeat ((conv => whnf); (first | refine zo0 ?_ | refine zo1 ?_ | refine br_z ?_ | refine br_o ?_ | refine br_zn ?_ | refine br_on ?_ | refine nz2 ?_ | refine nz6 ?_ | refine nz32 ?_ | refine And.intro (by assumption) ?_))); (conv => whnf)
        refine ⟨fun h1 => ?_, fun h1 => ?_⟩
        · (repeat ((conv => whnf); (first | refine zo0 ?_ | refine zo1 ?_ | refine br_z ?_ | refine br_o ?_ | refine br_zn ?_ | refine br_on ?_ | refine nz2 ?_ | refine nz6 ?_ | refine nz32 ?_ | refine And.intro (by assumption) ?_))); (conv => whnf)
          rw [show i = E 0 0 by omega] at hw
          exact hK D' hf hw
        · rw [e7, hex.1] at h1
          exact absurd (nI_le (by omega) (by have := hE.1; omega)) h1
      | succ m ih =>
        intro i D' k3 k4 hi hf hw
        have hn8 := hE.1
        have hE2 := hE.2 i (by omega)
        have hx2 := hex.2 i (by omega)
        have e7 : D' 49 7 = D 49 7 := hf.2 7 (by omega)
        have e15 : D' 49 15 = D 49 15 := hf.2 15 (by omega)
        have e56 : D' 56 = D 56 := hf.1 56 (by omega) (by omega)
        have e57 : D' 57 = D 57 := hf.1 57 (by omega) (by omega)
        have e58 : D' 58 = D 58 := hf.1 58 (by omega) (by omega)
        have ec : (nI i).toNatClampNeg = i := nI_clamp (by omega)
        have hin : vp_in (nI i) 8 := vp_in_nI (by omega) (by decide)
        have hok : mw_ok P n (mw_bef E pr t w i).1 := mw_bef_ok hE hO i (by omega)
        have hnext : mw_bef E pr t w (i + 1) = mw_ev E pr t i (mw_bef E pr t w i) := rfl
        have ek : D' 56 i = nI (E 1 i) := by rw [e56]; exact hx2.1
        have en : D' 58 i = nI (E 3 i) := by rw [e58]; exact hx2.2.2
        refine am_Wp_bl mfM_befalls [7] 160 _ _ _ _ _ ?_
        (repeat ((conv => whnf); (first | refine zo0 ?_ | refine zo1 ?_ | refine br_z ?_ | refine br_o ?_ | refine br_zn ?_ | refine br_on ?_ | refine nz2 ?_ | refine nz6 ?_ | refine nz32 ?_ | refine And.intro (by assumption) ?_))); (conv => whnf)
        refine ⟨fun h1 => ?_, fun h1 => ?_⟩
        · rw [e7, hex.1] at h1
          exact absurd h1 (nI_ge (by omega) (by omega))
        (repeat ((conv => whnf); (first | refine zo0 ?_ | refine zo1 ?_ | refine br_z ?_ | refine br_o ?_ | refine br_zn ?_ | refine br_on ?_ | refine nz2 ?_ | refine nz6 ?_ | refine nz32 ?_ | refine And.intro (by assumption) ?_))); (conv => whnf)
        rw [ec, en, e57, hx2.2.1, nI_eq (by omega) (by omega)]
        have skip : ¬ (E 2 i = t ∧ pr i = true) → ∀ k3 k4 : Option Value, am_Wp false 0 cdM_befalls fnM_befalls K 7 [some (.ref 49), some (.int (nI t)), some (.int (nI i + 1)), k3, k4] [] D' L := by
          intro q k3 k4
          rw [nI_1]
          refine ih (i + 1) D' k3 k4 (by omega) hf ?_
          rw [hnext, mw_ev_no q]
          exact hw
        refine ⟨fun h3 => ?_, fun h3 => ?_⟩
        · (repeat ((conv => whnf); (first | refine zo0 ?_ | refine zo1 ?_ | refine br_z ?_ | refine br_o ?_ | refine br_zn ?_ | refine br_on ?_ | refine nz2 ?_ | refine nz6 ?_ | refine nz32 ?_ | refine And.intro (by assumption) ?_))); (conv => whnf)
          exact skip (fun q => h3 q.1) _ _
        have hp := hpr i (by omega)
        (repeat ((conv => whnf); (first | refine zo0 ?_ | refine zo1 ?_ | refine br_z ?_ | refine br_o ?_ | refine br_zn ?_ | refine br_on ?_ | refine nz2 ?_ | refine nz6 ?_ | refine nz32 ?_ | refine And.intro (by assumption) ?_))); (conv => whnf)
        rw [e15]
        refine ⟨fun h4 => ?_, fun h4 => ?_⟩
        · have hc : E 2 i = t ∧ pr i = true := ⟨h3, by rw [hp]; exact decide_eq_true h4⟩
          obtain ⟨w1, g1⟩ : ∃ w1 : mw_T, (mw_bef E pr t w i).1 = w1 := ⟨_, rfl⟩
          obtain ⟨gg, g2⟩ : ∃ gg : Int32, (mw_bef E pr t w i).2 = gg := ⟨_, rfl⟩
          rw [g1, g2] at hw
          rw [g1] at hok
          have hw' := hw
          obtain ⟨aL, a16, a17, a18, a19, a20, a21, a22, a23, a24, a25, a26, a27⟩ := hw
          obtain ⟨m1, m2, m3, m4, m5, m6, m7, m8, m9⟩ := hok
          obtain ⟨q1, q2, q3, q4, q5, q6, q7⟩ := hPk
          have k1 : nI (E 1 i) = 1 ↔ E 1 i = 1 := by rw [← nc1, nI_eq (by omega) (by omega)]
          have k2 : nI (E 1 i) = 2 ↔ E 1 i = 2 := by rw [← nc2, nI_eq (by omega) (by omega)]
          have u56 : ∀ (D : am_D) (j : Nat) (v : Int32), am_up D 49 j v 56 = D 56 := fun D j v => am_up_ne (by decide)
          have u62 : ∀ (D : am_D) (j : Nat) (v : Int32), am_up D 49 j v 62 = D 62 := fun D j v => am_up_ne (by decide)
          (repeat ((conv => whnf); (first | refine zo0 ?_ | refine zo1 ?_ | refine br_z ?_ | refine br_o ?_ | refine br_zn ?_ | refine br_on ?_ | refine nz2 ?_ | refine nz6 ?_ | refine nz32 ?_ | refine And.intro (by assumption) ?_))); (conv => whnf)
          rw [ec, ek, a23]
          refine ⟨fun h5 => ?_, fun h5 => ?_⟩
          · have h5' : ¬ E 1 i = 0 := fun q => h5 (by rw [q, nI_0])
            (repeat ((conv => whnf); (first | refine zo0 ?_ | refine zo1 ?_ | refine br_z ?_ | refine br_o ?_ | refine br_zn ?_ | refine br_on ?_ | refine nz2 ?_ | refine nz6 ?_ | refine nz32 ?_ | refine And.intro (by assumption) ?_))); (conv => whnf)
            rw [or0]
            refine ⟨fun q => absurd q (by decide), fun _ => ?_⟩
            (repeat ((conv => whnf); (first | refine zo0 ?_ | refine zo1 ?_ | refine br_z ?_ | refine br_o ?_ | refine br_zn ?_ | refine br_on ?_ | refine nz2 ?_ | refine nz6 ?_ | refine nz32 ?_ | refine And.intro (by assumption) ?_))); (conv => whnf)
            rw [u56, ec, ek, k1]
            refine ⟨fun h6 => ?_, fun h6 => ?_⟩
            · have h62 : E 1 i = 2 := by omega
              (repeat ((conv => whnf); (first | refine zo0 ?_ | refine zo1 ?_ | refine br_z ?_ | refine br_o ?_ | refine br_zn ?_ | refine br_on ?_ | refine nz2 ?_ | refine nz6 ?_ | refine nz32 ?_ | refine And.intro (by assumption) ?_))); (conv => whnf)
              rw [u56, ec, ek, k2]
              refine ⟨fun h7 => absurd h62 h7, fun h7 => ?_⟩
              have hin2 : vp_in (nI (E 3 i)) 12 := vp_in_nI (by omega) (by decide)
              have ec2 : (nI (E 3 i)).toNatClampNeg = E 3 i := nI_clamp (by omega)
              obtain ⟨dd, hdd⟩ : ∃ dd : Nat, E 3 i = dd := ⟨_, rfl⟩
              rw [hdd] at hin2 ec2
              have x2 := (aL dd (by omega)).2.1
              have md := m9 dd (by omega)
              have qd := q6 dd (by omega)
              rw [hdd]
              (repeat ((conv => whnf); (first | refine zo0 ?_ | refine zo1 ?_ | refine br_z ?_ | refine br_o ?_ | refine br_zn ?_ | refine br_on ?_ | refine nz2 ?_ | refine nz6 ?_ | refine nz32 ?_ | refine And.intro (by assumption) ?_))); (conv => whnf)
              rw [u62, ec2, x2]
              refine ⟨fun h8 => ?_, fun h8 => ?_⟩
              · rw [← nI_0, nI_leI (by omega) (by omega)] at h8
                (repeat ((conv => whnf); (first | refine zo0 ?_ | refine zo1 ?_ | refine br_z ?_ | refine br_o ?_ | refine br_zn ?_ | refine br_on ?_ | refine nz2 ?_ | refine nz6 ?_ | refine nz32 ?_ | refine And.intro (by assumption) ?_))); (conv => whnf)
                have ew : mw_bef E pr t w (i + 1) = mw_bef E pr t w i := by
                  rw [hnext, mw_ev, if_pos hc, if_neg h5', if_neg h6, hdd, g1, if_neg (by omega)]
                rw [nI_1]
                refine ih (i + 1) _ _ _ (by omega) (fm_tr hf (by repeat (first | exact fm_rf | refine fm_up (by decide) (by decide) ?_ | refine fm_upA (by decide) (by decide) ?_))) ?_
                rw [ew, g1, g2]
                refine ⟨fun d hd => ?_, ?_⟩
                · obtain ⟨b1, b2, b3⟩ := aL d hd
                  refine ⟨?_, ?_, ?_⟩ <;> simp [am_up, upd, b1, b2, b3, nI_0, nc1, nc2, nc3, nc4]
                · refine ⟨?_, ?_, ?_, ?_, ?_, ?_, ?_, ?_, ?_, ?_, ?_, ?_⟩ <;> simp [am_up, upd, a16, a17, a18, a19, a20, a21, a22, a23, a24, a25, a26, a27, nI_0, nc1, nc2, nc3, nc4]
              · rw [← nI_0, nI_leI (by omega) (by omega)] at h8
                (repeat ((conv => whnf); (first | refine zo0 ?_ | refine zo1 ?_ | refine br_z ?_ | refine br_o ?_ | refine br_zn ?_ | refine br_on ?_ | refine nz2 ?_ | refine nz6 ?_ | refine nz32 ?_ | refine And.intro (by assumption) ?_))); (conv => whnf)
                have ew : mw_bef E pr t w (i + 1) = (up2 (up2 w1 2 dd (w1 2 dd - 1)) 0 10 (w1 0 10 + 1), gg) := by
                  rw [hnext, mw_ev, if_pos hc, if_neg h5', if_neg h6, hdd, g1, if_pos (by omega), g2]
                have es : nI (w1 2 dd) - 1 = nI (w1 2 dd - 1) := nI_sub1 (by omega)
                rw [nI_1]
                refine ih (i + 1) _ _ _ (by omega) (fm_tr hf (by repeat (first | exact fm_rf | refine fm_up (by decide) (by decide) ?_ | refine fm_upA (by decide) (by decide) ?_))) ?_
                rw [ew]
                refine ⟨fun d hd => ?_, ?_⟩
                · obtain ⟨b1, b2, b3⟩ := aL d hd
                  by_cases ed : d = dd
                  · subst ed
                    refine ⟨?_, ?_, ?_⟩ <;> simp [am_up, upd, up2, ec2, x2, es, nI_1, a16, a17, a18, a19, a20, a21, a22, a23, a24, a25, a26, a27, b1, b2, b3, nI_0, nc1, nc2, nc3, nc4]
                  · refine ⟨?_, ?_, ?_⟩ <;> simp [am_up, upd, up2, ec2, x2, es, nI_1, ed, b1, b2, b3, nI_0, nc1, nc2, nc3, nc4]
                · refine ⟨?_, ?_, ?_, ?_, ?_, ?_, ?_, ?_, ?_, ?_, ?_, ?_⟩ <;> simp [am_up, upd, up2, ec2, x2, es, nI_1, a16, a17, a18, a19, a20, a21, a22, a23, a24, a25, a26, a27, nI_0, nc1, nc2, nc3, nc4]
            · (repeat ((conv => whnf); (first | refine zo0 ?_ | refine zo1 ?_ | refine br_z ?_ | refine br_o ?_ | refine br_zn ?_ | refine br_on ?_ | refine nz2 ?_ | refine nz6 ?_ | refine nz32 ?_ | refine And.intro (by assumption) ?_))); (conv => whnf)
              refine ⟨w1 0 1, w1 0 0, by simp [am_up, upd, a17], by simp [am_up, upd, a16], m2, m1, ?_⟩
              have t1 : mw_tw (w1 0 1) (w1 0 0) 1 ≤ 11 := mw_tw_le m2 m1
              have t2 : mw_tw (mw_tw (w1 0 1) (w1 0 0) 1) (w1 0 0) 1 ≤ 11 := mw_tw_le t1 m1
              (repeat ((conv => whnf); (first | refine zo0 ?_ | refine zo1 ?_ | refine br_z ?_ | refine br_o ?_ | refine br_zn ?_ | refine br_on ?_ | refine nz2 ?_ | refine nz6 ?_ | refine nz32 ?_ | refine And.intro (by assumption) ?_))); (conv => whnf)
              refine ⟨fun q => absurd q (by decide), fun _ => ?_⟩
              (repeat ((conv => whnf); (first | refine zo0 ?_ | refine zo1 ?_ | refine br_z ?_ | refine br_o ?_ | refine br_zn ?_ | refine br_on ?_ | refine nz2 ?_ | refine nz6 ?_ | refine nz32 ?_ | refine And.intro (by assumption) ?_))); (conv => whnf)
              rw [u56, u56, ec, ek, k1]
              refine ⟨fun q => absurd h6 q, fun _ => ?_⟩
              (repeat ((conv => whnf); (first | refine zo0 ?_ | refine zo1 ?_ | refine br_z ?_ | refine br_o ?_ | refine br_zn ?_ | refine br_on ?_ | refine nz2 ?_ | refine nz6 ?_ | refine nz32 ?_ | refine And.intro (by assumption) ?_))); (conv => whnf)
              refine ⟨mw_tw (w1 0 1) (w1 0 0) 1, w1 0 0, by simp [am_up, upd], by simp [am_up, upd, a16], t1, m1, ?_⟩
              (repeat ((conv => whnf); (first | refine zo0 ?_ | refine zo1 ?_ | refine br_z ?_ | refine br_o ?_ | refine br_zn ?_ | refine br_on ?_ | refine nz2 ?_ | refine nz6 ?_ | refine nz32 ?_ | refine And.intro (by assumption) ?_))); (conv => whnf)
              refine ⟨fun q => absurd q (by decide), fun _ => ?_⟩
              (repeat ((conv => whnf); (first | refine zo0 ?_ | refine zo1 ?_ | refine br_z ?_ | refine br_o ?_ | refine br_zn ?_ | refine br_on ?_ | refine nz2 ?_ | refine nz6 ?_ | refine nz32 ?_ | refine And.intro (by assumption) ?_))); (conv => whnf)
              rw [u56, u56, u56, ec, ek, k1]
              refine ⟨fun q => absurd h6 q, fun _ => ?_⟩
              (repeat ((conv => whnf); (first | refine zo0 ?_ | refine zo1 ?_ | refine br_z ?_ | refine br_o ?_ | refine br_zn ?_ | refine br_on ?_ | refine nz2 ?_ | refine nz6 ?_ | refine nz32 ?_ | refine And.intro (by assumption) ?_))); (conv => whnf)
              refine ⟨mw_tw (mw_tw (w1 0 1) (w1 0 0) 1) (w1 0 0) 1, w1 0 0, by simp [am_up, upd], by simp [am_up, upd, a16], t2, m1, ?_⟩
              rw [tw3 _ (by omega) _ (by omega)]
              (repeat ((conv => whnf); (first | refine zo0 ?_ | refine zo1 ?_ | refine br_z ?_ | refine br_o ?_ | refine br_zn ?_ | refine br_on ?_ | refine nz2 ?_ | refine nz6 ?_ | refine nz32 ?_ | refine And.intro (by assumption) ?_))); (conv => whnf)
              refine ⟨fun _ => ?_, fun q => absurd (by decide) q⟩
              (repeat ((conv => whnf); (first | refine zo0 ?_ | refine zo1 ?_ | refine br_z ?_ | refine br_o ?_ | refine br_zn ?_ | refine br_on ?_ | refine nz2 ?_ | refine nz6 ?_ | refine nz32 ?_ | refine And.intro (by assumption) ?_))); (conv => whnf)
              rw [u56, u56, u56, u56, ec, ek, k2]
              refine ⟨fun _ => ?_, fun q => by omega⟩
              (repeat ((conv => whnf); (first | refine zo0 ?_ | refine zo1 ?_ | refine br_z ?_ | refine br_o ?_ | refine br_zn ?_ | refine br_on ?_ | refine nz2 ?_ | refine nz6 ?_ | refine nz32 ?_ | refine And.intro (by assumption) ?_))); (conv => whnf)
              have ew : mw_bef E pr t w (i + 1) = (up2 w1 0 1 (mw_tw (w1 0 1) (w1 0 0) 3), gg) := by
                rw [hnext, mw_ev, if_pos hc, if_neg h5', if_pos h6, g1, g2]
              rw [nI_1]
              refine ih (i + 1) _ _ _ (by omega) (fm_tr hf (by repeat (first | exact fm_rf | refine fm_up (by decide) (by decide) ?_ | refine fm_upA (by decide) (by decide) ?_))) ?_
              rw [ew]
              refine ⟨fun d hd => ?_, ?_⟩
              · obtain ⟨b1, b2, b3⟩ := aL d hd
                refine ⟨?_, ?_, ?_⟩ <;> simp [am_up, upd, up2, b1, b2, b3, nI_0, nc1, nc2, nc3, nc4]
              · refine ⟨?_, ?_, ?_, ?_, ?_, ?_, ?_, ?_, ?_, ?_, ?_, ?_⟩ <;> simp [am_up, upd, up2, a16, a17, a18, a19, a20, a21, a22, a23, a24, a25, a26, a27, nI_0, nc1, nc2, nc3, nc4]
          · have h5' : E 1 i = 0 := by
              rcases Nat.eq_zero_or_pos (E 1 i) with q | q
              · exact q
              · exact absurd h5 (nI_ne0 q (by omega))
            (repeat ((conv => whnf); (first | refine zo0 ?_ | refine zo1 ?_ | refine br_z ?_ | refine br_o ?_ | refine br_zn ?_ | refine br_on ?_ | refine nz2 ?_ | refine nz6 ?_ | refine nz32 ?_ | refine And.intro (by assumption) ?_))); (conv => whnf)
            refine ⟨fun q => absurd q (by decide), fun _ => ?_⟩
            (repeat ((conv => whnf); (first | refine zo0 ?_ | refine zo1 ?_ | refine br_z ?_ | refine br_o ?_ | refine br_zn ?_ | refine br_on ?_ | refine nz2 ?_ | refine nz6 ?_ | refine nz32 ?_ | refine And.intro (by assumption) ?_))); (conv => whnf)
            rw [u56, ec, ek, k1]
            refine ⟨fun _ => ?_, fun q => by omega⟩
            (repeat ((conv => whnf); (first | refine zo0 ?_ | refine zo1 ?_ | refine br_z ?_ | refine br_o ?_ | refine br_zn ?_ | refine br_on ?_ | refine nz2 ?_ | refine nz6 ?_ | refine nz32 ?_ | refine And.intro (by assumption) ?_))); (conv => whnf)
            rw [u56, ec, ek, k2]
            refine ⟨fun _ => ?_, fun q => by omega⟩
            (repeat ((conv => whnf); (first | refine zo0 ?_ | refine zo1 ?_ | refine br_z ?_ | refine br_o ?_ | refine br_zn ?_ | refine br_on ?_ | refine nz2 ?_ | refine nz6 ?_ | refine nz32 ?_ | refine And.intro (by assumption) ?_))); (conv => whnf)
            have ew : mw_bef E pr t w (i + 1) = (w1, gg ||| ((1 : Int32) <<< (nI (E 3 i) &&& 31))) := by
              rw [hnext, mw_ev, if_pos hc, if_pos h5', g1, g2]
            rw [nI_1]
            refine ih (i + 1) _ _ _ (by omega) (fm_tr hf (by repeat (first | exact fm_rf | refine fm_up (by decide) (by decide) ?_ | refine fm_upA (by decide) (by decide) ?_))) ?_
            rw [ew]
            refine ⟨fun d hd => ?_, ?_⟩
            · obtain ⟨b1, b2, b3⟩ := aL d hd
              refine ⟨?_, ?_, ?_⟩ <;> simp [am_up, upd, up2, b1, b2, b3, nI_0, nc1, nc2, nc3, nc4]
            · refine ⟨?_, ?_, ?_, ?_, ?_, ?_, ?_, ?_, ?_, ?_, ?_, ?_⟩ <;> simp [am_up, upd, up2, a16, a17, a18, a19, a20, a21, a22, a23, a24, a25, a26, a27, nI_0, nc1, nc2, nc3, nc4]
        · have hc : ¬ (E 2 i = t ∧ pr i = true) := fun q => by rw [hp] at q; exact h4 (of_decide_eq_true q.2)
          (repeat ((conv => whnf); (first | refine zo0 ?_ | refine zo1 ?_ | refine br_z ?_ | refine br_o ?_ | refine br_zn ?_ | refine br_on ?_ | refine nz2 ?_ | refine nz6 ?_ | refine nz32 ?_ | refine And.intro (by assumption) ?_))); (conv => whnf)
          exact skip hc _ _
    refine ⟨rfl, am_Wp_bl mfM_befalls [7] 20 _ _ _ _ _ ?_⟩
    (repeat ((conv => whnf); (first | refine zo0 ?_ | refine zo1 ?_ | refine br_z ?_ | refine br_o ?_ | refine br_zn ?_ | refine br_on ?_ | refine nz2 ?_ | refine nz6 ?_ | refine nz32 ?_ | refine And.intro (by assumption) ?_))); (conv => whnf)
    refine loop (E 0 0) 0 _ none none (by omega) (by repeat (first | exact fm_rf | refine fm_up (by decide) (by decide) ?_ | refine fm_upA (by decide) (by decide) ?_)) ?_
    obtain ⟨aL, a16, a17, a18, a19, a20, a21, a22, a23, a24, a25, a26, a27⟩ := hw0
    refine ⟨fun d hd => ?_, ?_⟩
    · obtain ⟨b1, b2, b3⟩ := aL d hd
      refine ⟨?_, ?_, ?_⟩ <;> simp [am_up, upd, mw_bef, b1, b2, b3, nI_0, nc1, nc2, nc3, nc4]
    · refine ⟨?_, ?_, ?_, ?_, ?_, ?_, ?_, ?_, ?_, ?_, ?_, ?_⟩ <;> simp [am_up, upd, mw_bef, a16, a17, a18, a19, a20, a21, a22, a23, a24, a25, a26, a27, nI_0, nc1, nc2, nc3, nc4]
  · exact absurd h id
theorem clM_befalls (l : Launch) : ∀ (a : Nat) (ins : Instr) (b dd : Nat), csM_befalls[a]? = some (ins, b, dd) → am_Call l yM_befalls.cls 1 ins b dd (fnM_befalls a) := by
  intro a ins b dd h
  match a, h with
  | 0, h => cases h; exact am_callS (okM_isIn l) wcM_isIn (am_m5 (i := 136) rfl rfl) wtM_isIn inM (by decide +kernel) (by decide) (by decide)
  | 1, h => cases h; exact am_callS (okM_towards l) wcM_towards (am_m5 (i := 139) rfl rfl) wtM_towards inM (by decide +kernel) (by decide) (by decide)
  | k + 2, h => simp [csM_befalls] at h
theorem okM_befalls (l : Launch) : am_Ok l yM_befalls prog_13_method_29_code 5 none 1 spM_befalls := am_ok_of (by decide +kernel) flM_ok kiM_ok klM_ok ckM_befalls (clM_befalls l) wpM_befalls
