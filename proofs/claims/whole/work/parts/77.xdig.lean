/-! answers at numbers in range -/
theorem qFault_n {v : vs_T} {a : Nat} (h : a ≤ 2) : qFault v (nI a) = vfI (vflt v a) := by
  unfold qFault
  rw [if_pos (show 0 ≤ nI a ∧ nI a ≤ 2 from ⟨nI_pos' (by omega), nI_le (b := 2) (by omega) (by omega)⟩), cN_nI (by omega)]
theorem qRound_n {v : vs_T} {a : Nat} (h : a ≤ 23) : qRound v (nI a) = dgRnd v a := by
  unfold qRound
  rw [if_pos (show 0 ≤ nI a ∧ nI a ≤ 23 from ⟨nI_pos' (by omega), nI_le (b := 23) (by omega) (by omega)⟩), cN_nI (by omega)]
  rfl
theorem qDone_n {v : vs_T} {a : Nat} (h : a ≤ 11) : qDone v (nI a) = aDone v a := by
  unfold qDone
  rw [if_pos (show 0 ≤ nI a ∧ nI a ≤ 11 from ⟨nI_pos' (by omega), nI_le (b := 11) (by omega) (by omega)⟩), cN_nI (by omega)]
theorem qNumbers_n {v : vs_T} {a : Nat} (h : a ≤ 11) : qNumbers v (nI a) = aNumbers v a := by
  unfold qNumbers
  rw [if_pos (show 0 ≤ nI a ∧ nI a ≤ 11 from ⟨nI_pos' (by omega), nI_le (b := 11) (by omega) (by omega)⟩), cN_nI (by omega)]
theorem qSum_n {v : vs_T} {a : Nat} (h : a ≤ 4) : qSum v (nI a) = nI (va v 48 0 (suIx a)) := by
  unfold qSum
  rw [if_pos (show 0 ≤ nI a ∧ nI a ≤ 4 from ⟨nI_pos' (by omega), nI_le (b := 4) (by omega) (by omega)⟩), cN_nI (by omega)]
theorem qBetter_n {v : vs_T} {a : Nat} (h : a ≤ 2) : qBetter v (nI a) = pI (aBetter v) a := by
  unfold qBetter
  rw [if_pos (show 0 ≤ nI a ∧ nI a ≤ 2 from ⟨nI_pos' (by omega), nI_le (b := 2) (by omega) (by omega)⟩), cN_nI (by omega)]
theorem qFit_n {v : vs_T} {a : Nat} (h : a ≤ 2) : qFit v (nI a) = pI (aFit v) a := by
  unfold qFit
  rw [if_pos (show 0 ≤ nI a ∧ nI a ≤ 2 from ⟨nI_pos' (by omega), nI_le (b := 2) (by omega) (by omega)⟩), cN_nI (by omega)]
theorem qSwap_n {v : vs_T} {a : Nat} (h : a ≤ 3) : qSwap v (nI a) = swI (aSwap v) a := by
  unfold qSwap
  rw [if_pos (show 0 ≤ nI a ∧ nI a ≤ 3 from ⟨nI_pos' (by omega), nI_le (b := 3) (by omega) (by omega)⟩), cN_nI (by omega)]
theorem qAt_n {v : vs_T} {a b : Nat} (h : a ≤ 47) (h2 : b ≤ 4) : qAt v (nI a) (nI b) = nI (va v (a + 1) 0 (atIx b)) := by
  unfold qAt
  rw [if_pos (show 0 ≤ nI a ∧ nI a ≤ 47 from ⟨nI_pos' (by omega), nI_le (b := 47) (by omega) (by omega)⟩), if_pos (show 0 ≤ nI b ∧ nI b ≤ 4 from ⟨nI_pos' (by omega), nI_le (b := 4) (by omega) (by omega)⟩), cN_nI (by omega), cN_nI (by omega)]
theorem qTold_0 {v : vs_T} {a : Nat} (h : a ≤ 11) : qTold v (nI a) 0 = nI (vpl v 1 a) := by
  unfold qTold
  rw [if_pos (show 0 ≤ nI a ∧ nI a ≤ 11 from ⟨nI_pos' (by omega), nI_le (b := 11) (by omega) (by omega)⟩), if_pos (by decide), cN_nI (by omega), cN_0]
theorem qTold_1 {v : vs_T} {a : Nat} (h : a ≤ 11) : qTold v (nI a) 1 = nI (vpl v 2 a) := by
  unfold qTold
  rw [if_pos (show 0 ≤ nI a ∧ nI a ≤ 11 from ⟨nI_pos' (by omega), nI_le (b := 11) (by omega) (by omega)⟩), if_pos (by decide), cN_nI (by omega), cN_1]
theorem qDoor_n {v : vs_T} {x : Int32} {t a b : Nat} (hx : x = nI t) (ht : t ≤ 47) (h : a ≤ 11) (h2 : b ≤ 2) : qDoor v x (nI a) (nI b) = nI (va v (t + 1) (b + 1) a) := by
  subst hx
  unfold qDoor
  rw [if_pos (show 0 ≤ nI t ∧ nI t ≤ 47 from ⟨nI_pos' (by omega), nI_le (b := 47) (by omega) (by omega)⟩), if_pos (show 0 ≤ nI a ∧ nI a ≤ 11 from ⟨nI_pos' (by omega), nI_le (b := 11) (by omega) (by omega)⟩), if_pos (show 0 ≤ nI b ∧ nI b ≤ 2 from ⟨nI_pos' (by omega), nI_le (b := 2) (by omega) (by omega)⟩), cN_nI (by omega), cN_nI (by omega), cN_nI (by omega)]
theorem qChance_5 {v : vs_T} {x : Int32} {a c : Nat} (h : a ≤ 11) (hx : x = nI c) (hc : c ≤ 1) : qChance v 5 (nI a) x = aCh v 5 a c := by
  subst hx
  unfold qChance
  rw [if_pos (by decide), if_pos (show 0 ≤ nI a ∧ nI a ≤ 11 from ⟨nI_pos' (by omega), nI_le (b := 11) (by omega) (by omega)⟩), if_pos (show 0 ≤ nI c ∧ nI c ≤ 1 from ⟨nI_pos' (by omega), nI_le (b := 1) (by omega) (by omega)⟩), cN_nI (by omega), cN_nI (by omega), show cN 5 = 5 by decide +kernel]
theorem qSpare_m (v : vs_T) : qSpare v (-1) = spN (aSpare v) := by
  unfold qSpare
  rw [if_pos (by decide), if_pos rfl]
theorem qSpare_0 (v : vs_T) : qSpare v 0 = spI (aSpare v) 0 := by
  unfold qSpare
  rw [if_pos (by decide), if_neg (by decide), cN_0]
theorem qMight_0 (v : vs_T) : qMight v 0 = aKinds v := by
  unfold qMight
  rw [if_pos (by decide), if_pos rfl]
theorem qMight_1 (v : vs_T) : qMight v 1 = aRooms v := by
  unfold qMight
  rw [if_pos (by decide), if_neg (by decide)]
theorem qMorn_79 {v : vs_T} {x : Int32} {c : Nat} (hx : x = nI c) (hc : c ≤ 1) : qMorn v 7 9 x = aMorn v 7 9 c := by
  subst hx
  unfold qMorn
  rw [if_pos (by decide), if_pos (show 0 ≤ nI c ∧ nI c ≤ 1 from ⟨nI_pos' (by omega), nI_le (b := 1) (by omega) (by omega)⟩), cN_nI (by omega), show cN 9 = 9 by decide +kernel]
def dgT (v : vs_T) (h : Int64) : Int64 := dgs (fun i => (dgRnd v i).toInt64) (dgs (fun t => (vfI (vflt v t)).toInt64) (dgs (fun k => (qCount v (nI k)).toInt64) h 8) 3) 24
theorem dgT_17 (v : vs_T) : dgT v 17 = dg3 v := rfl
def fnX_count : Nat → am_Sp := fun a => match a with
  | 0 => spX_learnDay
  | 1 => spJ_bitCount
  | _ => am_no
theorem mfX_count : ∀ a, am_mono (fnX_count a) := fun a => match a with
  | 0 => moX_learnDay
  | 1 => moJ_bitCount
  | _ + 2 => am_no_mono
def spX_count : am_Sp := fun as D L K => match as with
  | [.ref 0, .int x] => ∃ v : vs_T, vok v ∧ ix D v ∧ ∀ (D' : am_D) (L' : am_L), fc D D' → ix D' v → K (some (.int (qCount v x))) D' L'
  | _ => False
theorem moX_count : am_mono spX_count := by
  intro as D L K K' hK h
  unfold spX_count at h ⊢
  split at h
  · obtain ⟨z0, z1, z2, hz⟩ := h
    exact ⟨z0, z1, z2, fun D' L' q1 q2 => hK _ _ _ (hz D' L' q1 q2)⟩
  · exact h
theorem wpX_count : ∀ (as : List Value) (D : am_D) (L : am_L) (K : am_K), spX_count as D L K → am_fit 2 as = true ∧ am_Wp false 0 cdX_count fnX_count K 0 (am_lo 2 as) [] D L := by
  intro as D L K h
  unfold spX_count at h
  split at h
  · rename_i x
    obtain ⟨v, hv, hi, hK⟩ := h
    refine ⟨rfl, am_Wp_bl mfX_count [] 90 _ _ _ _ _ ?_⟩
    (repeat ((conv => whnf); (first | refine zo0 ?_ | refine zo1 ?_ | refine br_z ?_ | refine br_o ?_ | refine br_zn ?_ | refine br_on ?_ | refine nz2 ?_ | refine nz6 ?_ | refine nz32 ?_ | refine And.intro (by assumption) ?_))); (conv => whnf)
    refine ⟨fun i o h1 h2 => ?_, fun h1 => ?_⟩
    · match i, h1, h2 with
      | 0, h1, h2 =>
        cases h1
        have ex : x = 0 := Int32.toInt_inj.mp (h2.trans (by decide))
        subst ex
        have k' : K (some (.int (nI (vpl v 0 0)))) D L := hK D L fc_rf hi
        rw [← hi.1.2.1.1.1] at k'
        (repeat ((conv => whnf); (first | refine zo0 ?_ | refine zo1 ?_ | refine br_z ?_ | refine br_o ?_ | refine br_zn ?_ | refine br_on ?_ | refine nz2 ?_ | refine nz6 ?_ | refine nz32 ?_ | refine And.intro (by assumption) ?_))); (conv => whnf)
        exact k'
      | 1, h1, h2 =>
        cases h1
        have ex : x = 1 := Int32.toInt_inj.mp (h2.trans (by decide))
        subst ex
        have k' : K (some (.int (v 0 0 + v 0 1 + v 0 2))) D L := hK D L fc_rf hi
        have b0 : D 1 4 = v 0 0 := (hi.1.1 0 (by decide)).2.2.2.1
        have b1 : D 3 4 = v 0 1 := (hi.1.1 1 (by decide)).2.2.2.1
        have b2 : D 5 4 = v 0 2 := (hi.1.1 2 (by decide)).2.2.2.1
        rw [← b0, ← b1, ← b2] at k'
        (repeat ((conv => whnf); (first | refine zo0 ?_ | refine zo1 ?_ | refine br_z ?_ | refine br_o ?_ | refine br_zn ?_ | refine br_on ?_ | refine nz2 ?_ | refine nz6 ?_ | refine nz32 ?_ | refine And.intro (by assumption) ?_))); (conv => whnf)
        exact k'
      | 2, h1, h2 =>
        cases h1
        have ex : x = 2 := Int32.toInt_inj.mp (h2.trans (by decide))
        subst ex
        have k' : K (some (.int (v 0 6))) D L := hK D L fc_rf hi
        rw [← hi.1.2.2.1.1] at k'
        (repeat ((conv => whnf); (first | refine zo0 ?_ | refine zo1 ?_ | refine br_z ?_ | refine br_o ?_ | refine br_zn ?_ | refine br_on ?_ | refine nz2 ?_ | refine nz6 ?_ | refine nz32 ?_ | refine And.intro (by assumption) ?_))); (conv => whnf)
        exact k'
      | 3, h1, h2 =>
        cases h1
        have ex : x = 3 := Int32.toInt_inj.mp (h2.trans (by decide))
        subst ex
        (repeat ((conv => whnf); (first | refine zo0 ?_ | refine zo1 ?_ | refine br_z ?_ | refine br_o ?_ | refine br_zn ?_ | refine br_on ?_ | refine nz2 ?_ | refine nz6 ?_ | refine nz32 ?_ | refine And.intro (by assumption) ?_))); (conv => whnf)
        refine ⟨v, hv, hi, fun D1 f1 i1 d1 => ?_⟩
        have k' : K (some (.int (qShort v))) D1 L := hK D1 L f1 i1
        have e : bcnt (qLacks v) = qShort v := bcnt_lk (vpl v) (va v 48)
        have e2 : D1 27 5 = qLacks v := d1.2.2
        rw [← e, ← e2] at k'
        (repeat ((conv => whnf); (first | refine zo0 ?_ | refine zo1 ?_ | refine br_z ?_ | refine br_o ?_ | refine br_zn ?_ | refine br_on ?_ | refine nz2 ?_ | refine nz6 ?_ | refine nz32 ?_ | refine And.intro (by assumption) ?_))); (conv => whnf)
        exact k'
      | 4, h1, h2 =>
        cases h1
        have ex : x = 4 := Int32.toInt_inj.mp (h2.trans (by decide))
        subst ex
        have e4 : D 14 4 = v 0 3 := by
          rw [hi.1.2.1.1.2.1]
          exact (vn_eq (by
            obtain ⟨n, h1, h2⟩ := hv.2.2.1
            exact ⟨n, by omega, h2⟩)).symm
        have k' : K (some (.int (v 0 3))) D L := hK D L fc_rf hi
        rw [← e4] at k'
        (repeat ((conv => whnf); (first | refine zo0 ?_ | refine zo1 ?_ | refine br_z ?_ | refine br_o ?_ | refine br_zn ?_ | refine br_on ?_ | refine nz2 ?_ | refine nz6 ?_ | refine nz32 ?_ | refine And.intro (by assumption) ?_))); (conv => whnf)
        exact k'
      | 5, h1, h2 =>
        cases h1
        have ex : x = 5 := Int32.toInt_inj.mp (h2.trans (by decide))
        subst ex
        have e4 : D 14 5 = v 0 4 := by
          rw [hi.1.2.1.1.2.2.1]
          exact (vn_eq (by
            obtain ⟨n, h0, h1, h2⟩ := hv.2.2.2.1
            exact ⟨n, by omega, h2⟩)).symm
        have k' : K (some (.int (v 0 4))) D L := hK D L fc_rf hi
        rw [← e4] at k'
        (repeat ((conv => whnf); (first | refine zo0 ?_ | refine zo1 ?_ | refine br_z ?_ | refine br_o ?_ | refine br_zn ?_ | refine br_on ?_ | refine nz2 ?_ | refine nz6 ?_ | refine nz32 ?_ | refine And.intro (by assumption) ?_))); (conv => whnf)
        exact k'
      | 6, h1, h2 =>
        cases h1
        have ex : x = 6 := Int32.toInt_inj.mp (h2.trans (by decide))
        subst ex
        have e4 : D 14 6 = v 0 5 := by
          rw [hi.1.2.1.1.2.2.2.1]
          exact (vn_eq (by
            obtain ⟨n, h1, h2⟩ := hv.2.2.2.2.1
            exact ⟨n, by omega, h2⟩)).symm
        have k' : K (some (.int (v 0 5))) D L := hK D L fc_rf hi
        rw [← e4] at k'
        (repeat ((conv => whnf); (first | refine zo0 ?_ | refine zo1 ?_ | refine br_z ?_ | refine br_o ?_ | refine br_zn ?_ | refine br_on ?_ | refine nz2 ?_ | refine nz6 ?_ | refine nz32 ?_ | refine And.intro (by assumption) ?_))); (conv => whnf)
        exact k'
      | 7, h1, h2 =>
        cases h1
        have ex : x = 7 := Int32.toInt_inj.mp (h2.trans (by decide))
        subst ex
        have k' : K (some (.int (v 0 7))) D L := hK D L fc_rf hi
        rw [← hi.1.2.2.2.1.1] at k'
        (repeat ((conv => whnf); (first | refine zo0 ?_ | refine zo1 ?_ | refine br_z ?_ | refine br_o ?_ | refine br_zn ?_ | refine br_on ?_ | refine nz2 ?_ | refine nz6 ?_ | refine nz32 ?_ | refine And.intro (by assumption) ?_))); (conv => whnf)
        exact k'
      | 8, h1, h2 =>
        cases h1
        have ex : x = 8 := Int32.toInt_inj.mp (h2.trans (by decide))
        subst ex
        have k' : K (some (.int (v 0 8))) D L := hK D L fc_rf hi
        rw [← hi.1.2.2.2.2.1] at k'
        (repeat ((conv => whnf); (first | refine zo0 ?_ | refine zo1 ?_ | refine br_z ?_ | refine br_o ?_ | refine br_zn ?_ | refine br_on ?_ | refine nz2 ?_ | refine nz6 ?_ | refine nz32 ?_ | refine And.intro (by assumption) ?_))); (conv => whnf)
        exact k'
      | n + 9, h1, h2 => cases h1
    · (repeat ((conv => whnf); (first | refine zo0 ?_ | refine zo1 ?_ | refine br_z ?_ | refine br_o ?_ | refine br_zn ?_ | refine br_on ?_ | refine nz2 ?_ | refine nz6 ?_ | refine nz32 ?_ | refine And.intro (by assumption) ?_))); (conv => whnf)
      have k := hK D L fc_rf hi
      unfold qCount at k
      have ne : ∀ (c : Int32), 0 ≤ c.toInt → c.toInt ≤ 8 → ¬ x = c := fun c q1 q2 e => by rw [e] at h1; omega
      rw [if_neg (ne 0 (by decide) (by decide)), if_neg (ne 1 (by decide) (by decide)), if_neg (ne 2 (by decide) (by decide)), if_neg (ne 3 (by decide) (by decide)), if_neg (ne 4 (by decide) (by decide)), if_neg (ne 5 (by decide) (by decide)), if_neg (ne 6 (by decide) (by decide)), if_neg (ne 7 (by decide) (by decide)), if_neg (ne 8 (by decide) (by decide))] at k
      exact k
  · exact absurd h id
theorem clX_count (l : Launch) : ∀ (a : Nat) (ins : Instr) (b dd : Nat), csX_count[a]? = some (ins, b, dd) → am_Call l yX_count.cls 5 ins b dd (fnX_count a) := by
  intro a ins b dd h
  match a, h with
  | 0, h => cases h; exact am_callV (T := F_10) (N := 17) (okX_learnDay l) wcX_learnDay (am_m3 (i := 11) rfl rfl) wiX_learnDay wsX_learnDay inX rfl (by decide) (by decide +kernel) (by decide) (by decide)
  | 1, h => cases h; exact am_callS (okJ_bitCount l) wcJ_bitCount (am_m4 (i := 59) rfl rfl) wtJ_bitCount inJI (by decide +kernel) (by decide) (by decide)
  | k + 2, h => simp [csX_count] at h
theorem okX_count (l : Launch) : am_Ok l yX_count prog_1_method_36_code 2 (some .int) 5 spX_count := am_ok_of (by decide +kernel) flX_ok kiX_ok klX_ok ckX_count (clX_count l) wpX_count
def fnX_mixTold : Nat → am_Sp := fun a => match a with
  | 0 => spX_count
  | 1 => spX_fault
  | 2 => spX_round
  | _ => am_no
theorem mfX_mixTold : ∀ a, am_mono (fnX_mixTold a) := fun a => match a with
  | 0 => moX_count
  | 1 => moX_fault
  | 2 => moX_round
  | _ + 3 => am_no_mono
def spX_mixTold : am_Sp := fun as D L K => match as with
  | [.ref 0, .long x] => ∃ v : vs_T, vok v ∧ ix D v ∧ ∀ (D' : am_D) (L' : am_L), fc D D' → ix D' v → K (some (.long (dgT v x))) D' L'
  | _ => False
theorem moX_mixTold : am_mono spX_mixTold := by
  intro as D L K K' hK h
  unfold spX_mixTold at h ⊢
  split at h
  · obtain ⟨z0, z1, z2, hz⟩ := h
    exact ⟨z0, z1, z2, fun D' L' q1 q2 => hK _ _ _ (hz D' L' q1 q2)⟩
  · exact h
theorem wpX_mixTold : ∀ (as : List Value) (D : am_D) (L : am_L) (K : am_K), spX_mixTold as D L K → am_fit 6 as = true ∧ am_Wp false 0 cdX_mixTold fnX_mixTold K 0 (am_lo 6 as) [] D L := by
  intro as D L K h
  unfold spX_mixTold at h
  split at h
  · rename_i x
    obtain ⟨v, hv, hi, hK⟩ := h
    have lc : ∀ (m i : Nat) (D' : am_D) (L' : am_L), i + m = 24 → fc D D' → ix D' v → am_Wp false 0 cdX_mixTold fnX_mixTold K 64 [some (.ref 0), some (.long x), none, some (.long (dgs (fun i => (dgRnd v i).toInt64) (dgs (fun t => (vfI (vflt v t)).toInt64) (dgs (fun k => (qCount v (nI k)).toInt64) (x) 8) 3) i)), none, some (.int (nI i))] [] D' L' := by
      intro m
      induction m with
      | zero =>
        intro i D' L' hm hf hi'
        refine am_Wp_bl mfX_mixTold [64] 40 _ _ _ _ _ ?_
        (repeat ((conv => whnf); (first | refine zo0 ?_ | refine zo1 ?_ | refine br_z ?_ | refine br_o ?_ | refine br_zn ?_ | refine br_on ?_ | refine nz2 ?_ | refine nz6 ?_ | refine nz32 ?_ | refine And.intro (by assumption) ?_))); (conv => whnf)
        refine ⟨fun h1 => ?_, fun h1 => absurd (nI_le (a := 24) (by omega) (by omega)) h1⟩
        (repeat ((conv => whnf); (first | refine zo0 ?_ | refine zo1 ?_ | refine br_z ?_ | refine br_o ?_ | refine br_zn ?_ | refine br_on ?_ | refine nz2 ?_ | refine nz6 ?_ | refine nz32 ?_ | refine And.intro (by assumption) ?_))); (conv => whnf)
        rw [show i = 24 by omega]
        exact hK D' L' hf hi'
      | succ m ih =>
        intro i D' L' hm hf hi'
        refine am_Wp_bl mfX_mixTold [64] 60 _ _ _ _ _ ?_
        (repeat ((conv => whnf); (first | refine zo0 ?_ | refine zo1 ?_ | refine br_z ?_ | refine br_o ?_ | refine br_zn ?_ | refine br_on ?_ | refine nz2 ?_ | refine nz6 ?_ | refine nz32 ?_ | refine And.intro (by assumption) ?_))); (conv => whnf)
        refine ⟨fun h1 => absurd h1 (nI_ge (b := 24) (by omega) (by omega)), fun h1 => ?_⟩
        (repeat ((conv => whnf); (first | refine zo0 ?_ | refine zo1 ?_ | refine br_z ?_ | refine br_o ?_ | refine br_zn ?_ | refine br_on ?_ | refine nz2 ?_ | refine nz6 ?_ | refine nz32 ?_ | refine And.intro (by assumption) ?_))); (conv => whnf)
        refine ⟨v, hv, hi', fun D1 L1 f1 i1 => ?_⟩
        (repeat ((conv => whnf); (first | refine zo0 ?_ | refine zo1 ?_ | refine br_z ?_ | refine br_o ?_ | refine br_zn ?_ | refine br_on ?_ | refine nz2 ?_ | refine nz6 ?_ | refine nz32 ?_ | refine And.intro (by assumption) ?_))); (conv => whnf)
        rw [nI_1, qRound_n (by omega)]
        exact ih (i + 1) D1 L1 (by omega) (fc_tr hf f1) i1
    have lb : ∀ (m i : Nat) (D' : am_D) (L' : am_L), i + m = 3 → fc D D' → ix D' v → am_Wp false 0 cdX_mixTold fnX_mixTold K 35 [some (.ref 0), some (.long x), none, some (.long (dgs (fun t => (vfI (vflt v t)).toInt64) (dgs (fun k => (qCount v (nI k)).toInt64) (x) 8) i)), none, some (.int (nI i))] [] D' L' := by
      intro m
      induction m with
      | zero =>
        intro i D' L' hm hf hi'
        refine am_Wp_bl mfX_mixTold [35, 64] 40 _ _ _ _ _ ?_
        (repeat ((conv => whnf); (first | refine zo0 ?_ | refine zo1 ?_ | refine br_z ?_ | refine br_o ?_ | refine br_zn ?_ | refine br_on ?_ | refine nz2 ?_ | refine nz6 ?_ | refine nz32 ?_ | refine And.intro (by assumption) ?_))); (conv => whnf)
        refine ⟨fun h1 => ?_, fun h1 => absurd (nI_lt (a := 2) (b := i) (by omega) (by omega)) h1⟩
        (repeat ((conv => whnf); (first | refine zo0 ?_ | refine zo1 ?_ | refine br_z ?_ | refine br_o ?_ | refine br_zn ?_ | refine br_on ?_ | refine nz2 ?_ | refine nz6 ?_ | refine nz32 ?_ | refine And.intro (by assumption) ?_))); (conv => whnf)
        rw [show i = 3 by omega]
        exact lc 24 0 D' L' (by omega) hf hi'
      | succ m ih =>
        intro i D' L' hm hf hi'
        refine am_Wp_bl mfX_mixTold [35, 64] 60 _ _ _ _ _ ?_
        (repeat ((conv => whnf); (first | refine zo0 ?_ | refine zo1 ?_ | refine br_z ?_ | refine br_o ?_ | refine br_zn ?_ | refine br_on ?_ | refine nz2 ?_ | refine nz6 ?_ | refine nz32 ?_ | refine And.intro (by assumption) ?_))); (conv => whnf)
        refine ⟨fun h1 => absurd h1 (nI_nlt (a := 2) (b := i) (by omega) (by omega)), fun h1 => ?_⟩
        (repeat ((conv => whnf); (first | refine zo0 ?_ | refine zo1 ?_ | refine br_z ?_ | refine br_o ?_ | refine br_zn ?_ | refine br_on ?_ | refine nz2 ?_ | refine nz6 ?_ | refine nz32 ?_ | refine And.intro (by assumption) ?_))); (conv => whnf)
        refine ⟨v, hv, hi', fun D1 L1 f1 i1 => ?_⟩
        (repeat ((conv => whnf); (first | refine zo0 ?_ | refine zo1 ?_ | refine br_z ?_ | refine br_o ?_ | refine br_zn ?_ | refine br_on ?_ | refine nz2 ?_ | refine nz6 ?_ | refine nz32 ?_ | refine And.intro (by assumption) ?_))); (conv => whnf)
        rw [nI_1, qFault_n (by omega)]
        exact ih (i + 1) D1 L1 (by omega) (fc_tr hf f1) i1
    have la : ∀ (m i : Nat) (D' : am_D) (L' : am_L), i + m = 8 → fc D D' → ix D' v → am_Wp false 0 cdX_mixTold fnX_mixTold K 5 [some (.ref 0), some (.long x), none, some (.long (dgs (fun k => (qCount v (nI k)).toInt64) (x) i)), none, some (.int (nI i))] [] D' L' := by
      intro m
      induction m with
      | zero =>
        intro i D' L' hm hf hi'
        refine am_Wp_bl mfX_mixTold [5, 35] 40 _ _ _ _ _ ?_
        (repeat ((conv => whnf); (first | refine zo0 ?_ | refine zo1 ?_ | refine br_z ?_ | refine br_o ?_ | refine br_zn ?_ | refine br_on ?_ | refine nz2 ?_ | refine nz6 ?_ | refine nz32 ?_ | refine And.intro (by assumption) ?_))); (conv => whnf)
        refine ⟨fun h1 => ?_, fun h1 => absurd (nI_lt (a := 7) (b := i) (by omega) (by omega)) h1⟩
        (repeat ((conv => whnf); (first | refine zo0 ?_ | refine zo1 ?_ | refine br_z ?_ | refine br_o ?_ | refine br_zn ?_ | refine br_on ?_ | refine nz2 ?_ | refine nz6 ?_ | refine nz32 ?_ | refine And.intro (by assumption) ?_))); (conv => whnf)
        rw [show i = 8 by omega]
        exact lb 3 0 D' L' (by omega) hf hi'
      | succ m ih =>
        intro i D' L' hm hf hi'
        refine am_Wp_bl mfX_mixTold [5, 35] 60 _ _ _ _ _ ?_
        (repeat ((conv => whnf); (first | refine zo0 ?_ | refine zo1 ?_ | refine br_z ?_ | refine br_o ?_ | refine br_zn ?_ | refine br_on ?_ | refine nz2 ?_ | refine nz6 ?_ | refine nz32 ?_ | refine And.intro (by assumption) ?_))); (conv => whnf)
        refine ⟨fun h1 => absurd h1 (nI_nlt (a := 7) (b := i) (by omega) (by omega)), fun h1 => ?_⟩
        (repeat ((conv => whnf); (first | refine zo0 ?_ | refine zo1 ?_ | refine br_z ?_ | refine br_o ?_ | refine br_zn ?_ | refine br_on ?_ | refine nz2 ?_ | refine nz6 ?_ | refine nz32 ?_ | refine And.intro (by assumption) ?_))); (conv => whnf)
        refine ⟨v, hv, hi', fun D1 L1 f1 i1 => ?_⟩
        (repeat ((conv => whnf); (first | refine zo0 ?_ | refine zo1 ?_ | refine br_z ?_ | refine br_o ?_ | refine br_zn ?_ | refine br_on ?_ | refine nz2 ?_ | refine nz6 ?_ | refine nz32 ?_ | refine And.intro (by assumption) ?_))); (conv => whnf)
        rw [nI_1]
        exact ih (i + 1) D1 L1 (by omega) (fc_tr hf f1) i1
    refine ⟨rfl, am_Wp_bl mfX_mixTold [5] 60 _ _ _ _ _ ?_⟩
    (repeat ((conv => whnf); (first | refine zo0 ?_ | refine zo1 ?_ | refine br_z ?_ | refine br_o ?_ | refine br_zn ?_ | refine br_on ?_ | refine nz2 ?_ | refine nz6 ?_ | refine nz32 ?_ | refine And.intro (by assumption) ?_))); (conv => whnf)
    exact la 8 0 D L (by omega) fc_rf hi
  · exact absurd h id
theorem clX_mixTold (l : Launch) : ∀ (a : Nat) (ins : Instr) (b dd : Nat), csX_mixTold[a]? = some (ins, b, dd) → am_Call l yX_mixTold.cls 6 ins b dd (fnX_mixTold a) := by
  intro a ins b dd h
  match a, h with
  | 0, h => cases h; exact am_callV (T := F_10) (N := 17) (okX_count l) wcX_count (am_m4 (i := 70) rfl rfl) wiX_count wsX_count inX rfl (by decide) (by decide +kernel) (by decide) (by decide)
  | 1, h => cases h; exact am_callV (T := F_10) (N := 17) (okX_fault l) wcX_fault (am_m4 (i := 71) rfl rfl) wiX_fault wsX_fault inX rfl (by decide) (by decide +kernel) (by decide) (by decide)
  | 2, h => cases h; exact am_callV (T := F_10) (N := 17) (okX_round l) wcX_round (am_m4 (i := 72) rfl rfl) wiX_round wsX_round inX rfl (by decide) (by decide +kernel) (by decide) (by decide)
  | k + 3, h => simp [csX_mixTold] at h
theorem okX_mixTold (l : Launch) : am_Ok l yX_mixTold prog_1_method_38_code 6 (some .long) 6 spX_mixTold := am_ok_of (by decide +kernel) flX_ok kiX_ok klX_ok ckX_mixTold (clX_mixTold l) wpX_mixTold
def fnX_mixMinutes : Nat → am_Sp := fun a => match a with
  | 0 => spX_at
  | _ => am_no
theorem mfX_mixMinutes : ∀ a, am_mono (fnX_mixMinutes a) := fun a => match a with
  | 0 => moX_at
  | _ + 1 => am_no_mono
def spX_mixMinutes : am_Sp := fun as D L K => match as with
  | [.ref 0, .long x] => ∃ v : vs_T, vok v ∧ ix D v ∧ ∀ (D' : am_D) (L' : am_L), fc D D' → ix D' v → K (some (.long (dgm v x 48))) D' L'
  | _ => False
theorem moX_mixMinutes : am_mono spX_mixMinutes := by
  intro as D L K K' hK h
  unfold spX_mixMinutes at h ⊢
  split at h
  · obtain ⟨z0, z1, z2, hz⟩ := h
    exact ⟨z0, z1, z2, fun D' L' q1 q2 => hK _ _ _ (hz D' L' q1 q2)⟩
  · exact h
theorem wpX_mixMinutes : ∀ (as : List Value) (D : am_D) (L : am_L) (K : am_K), spX_mixMinutes as D L K → am_fit 7 as = true ∧ am_Wp false 0 cdX_mixMinutes fnX_mixMinutes K 0 (am_lo 7 as) [] D L := by
  intro as D L K h
  unfold spX_mixMinutes at h
  split at h
  · rename_i x
    obtain ⟨v, hv, hi, hK⟩ := h
    have l4 : ∀ (n t : Nat) (D' : am_D) (L' : am_L) (k6 : Option Value), t + n = 48 → fc D D' → ix D' v → am_Wp false 0 cdX_mixMinutes fnX_mixMinutes K 5 [some (.ref 0), some (.long x), none, some (.long (dgm v x t)), none, some (.int (nI t)), k6] [] D' L' := by
      intro n
      induction n with
      | zero =>
        intro t D' L' k6 hm hf hi'
        refine am_Wp_bl mfX_mixMinutes [5] 40 _ _ _ _ _ ?_
        (repeat ((conv => whnf); (first | refine zo0 ?_ | refine zo1 ?_ | refine br_z ?_ | refine br_o ?_ | refine br_zn ?_ | refine br_on ?_ | refine nz2 ?_ | refine nz6 ?_ | refine nz32 ?_ | refine And.intro (by assumption) ?_))); (conv => whnf)
        refine ⟨fun h1 => ?_, fun h1 => absurd (nI_le (a := 48) (by omega) (by omega)) h1⟩
        (repeat ((conv => whnf); (first | refine zo0 ?_ | refine zo1 ?_ | refine br_z ?_ | refine br_o ?_ | refine br_zn ?_ | refine br_on ?_ | refine nz2 ?_ | refine nz6 ?_ | refine nz32 ?_ | refine And.intro (by assumption) ?_))); (conv => whnf)
        rw [show t = 48 by omega]
        exact hK D' L' hf hi'
      | succ n ih =>
        intro t D' L' k6 hm hf hi'
        have hq : ∀ (D' : am_D) (L' : am_L) (k6 : Option Value), fc D D' → ix D' v → am_Wp false 0 cdX_mixMinutes fnX_mixMinutes K 5 [some (.ref 0), some (.long x), none, some (.long (dgs (fun c => (nI (va v (t + 1) 0 (atIx c))).toInt64) (dgm v x t) 5)), none, some (.int (nI (t + 1))), k6] [] D' L' := fun D' L' k6 hf hi => ih (t + 1) D' L' k6 (by omega) hf hi
        have l4i : ∀ (m i : Nat) (D' : am_D) (L' : am_L), i + m = 5 → fc D D' → ix D' v → am_Wp false 0 cdX_mixMinutes fnX_mixMinutes K 15 [some (.ref 0), some (.long x), none, some (.long (dgs (fun c => (nI (va v (t + 1) 0 (atIx c))).toInt64) (dgm v x t) i)), none, some (.int (nI t)), some (.int (nI i))] [] D' L' := by
          intro m
          induction m with
          | zero =>
            intro i D' L' hm hf hi'
            refine am_Wp_bl mfX_mixMinutes [15, 5] 40 _ _ _ _ _ ?_
            (repeat ((conv => whnf); (first | refine zo0 ?_ | refine zo1 ?_ | refine br_z ?_ | refine br_o ?_ | refine br_zn ?_ | refine br_on ?_ | refine nz2 ?_ | refine nz6 ?_ | refine nz32 ?_ | refine And.intro (by assumption) ?_))); (conv => whnf)
            refine ⟨fun h1 => ?_, fun h1 => absurd (nI_le (a := 5) (by omega) (by omega)) h1⟩
            (repeat ((conv => whnf); (first | refine zo0 ?_ | refine zo1 ?_ | refine br_z ?_ | refine br_o ?_ | refine br_zn ?_ | refine br_on ?_ | refine nz2 ?_ | refine nz6 ?_ | refine nz32 ?_ | refine And.intro (by assumption) ?_))); (conv => whnf)
            rw [show i = 5 by omega]
            rw [nI_1]
            exact hq D' L' _ hf hi'
          | succ m ih =>
            intro i D' L' hm hf hi'
            refine am_Wp_bl mfX_mixMinutes [15, 5] 60 _ _ _ _ _ ?_
            (repeat ((conv => whnf); (first | refine zo0 ?_ | refine zo1 ?_ | refine br_z ?_ | refine br_o ?_ | refine br_zn ?_ | refine br_on ?_ | refine nz2 ?_ | refine nz6 ?_ | refine nz32 ?_ | refine And.intro (by assumption) ?_))); (conv => whnf)
            refine ⟨fun h1 => absurd h1 (nI_ge (b := 5) (by omega) (by omega)), fun h1 => ?_⟩
            (repeat ((conv => whnf); (first | refine zo0 ?_ | refine zo1 ?_ | refine br_z ?_ | refine br_o ?_ | refine br_zn ?_ | refine br_on ?_ | refine nz2 ?_ | refine nz6 ?_ | refine nz32 ?_ | refine And.intro (by assumption) ?_))); (conv => whnf)
            refine ⟨v, hv, hi', fun D1 L1 f1 i1 => ?_⟩
            (repeat ((conv => whnf); (first | refine zo0 ?_ | refine zo1 ?_ | refine br_z ?_ | refine br_o ?_ | refine br_zn ?_ | refine br_on ?_ | refine nz2 ?_ | refine nz6 ?_ | refine nz32 ?_ | refine And.intro (by assumption) ?_))); (conv => whnf)
            rw [nI_1, qAt_n (by omega) (by omega)]
            exact ih (i + 1) D1 L1 (by omega) (fc_tr hf f1) i1
        refine am_Wp_bl mfX_mixMinutes [15] 40 _ _ _ _ _ ?_
        (repeat ((conv => whnf); (first | refine zo0 ?_ | refine zo1 ?_ | refine br_z ?_ | refine br_o ?_ | refine br_zn ?_ | refine br_on ?_ | refine nz2 ?_ | refine nz6 ?_ | refine nz32 ?_ | refine And.intro (by assumption) ?_))); (conv => whnf)
        refine ⟨fun h1 => absurd h1 (nI_ge (b := 48) (by omega) (by omega)), fun h1 => ?_⟩
        (repeat ((conv => whnf); (first | refine zo0 ?_ | refine zo1 ?_ | refine br_z ?_ | refine br_o ?_ | refine br_zn ?_ | refine br_on ?_ | refine nz2 ?_ | refine nz6 ?_ | refine nz32 ?_ | refine And.intro (by assumption) ?_))); (conv => whnf)
        exact l4i 5 0 D' L' (by omega) hf hi'
    refine ⟨rfl, am_Wp_bl mfX_mixMinutes [5] 60 _ _ _ _ _ ?_⟩
    (repeat ((conv => whnf); (first | refine zo0 ?_ | refine zo1 ?_ | refine br_z ?_ | refine br_o ?_ | refine br_zn ?_ | refine br_on ?_ | refine nz2 ?_ | refine nz6 ?_ | refine nz32 ?_ | refine And.intro (by assumption) ?_))); (conv => whnf)
    exact l4 48 0 D L none (by omega) fc_rf hi
  · exact absurd h id
theorem clX_mixMinutes (l : Launch) : ∀ (a : Nat) (ins : Instr) (b dd : Nat), csX_mixMinutes[a]? = some (ins, b, dd) → am_Call l yX_mixMinutes.cls 6 ins b dd (fnX_mixMinutes a) := by
  intro a ins b dd h
  match a, h with
  | 0, h => cases h; exact am_callV (T := F_10) (N := 17) (okX_at l) wcX_at (am_m4 (i := 77) rfl rfl) wiX_at wsX_at inX rfl (by decide) (by decide +kernel) (by decide) (by decide)
  | k + 1, h => simp [csX_mixMinutes] at h
theorem okX_mixMinutes (l : Launch) : am_Ok l yX_mixMinutes prog_1_method_39_code 7 (some .long) 6 spX_mixMinutes := am_ok_of (by decide +kernel) flX_ok kiX_ok klX_ok ckX_mixMinutes (clX_mixMinutes l) wpX_mixMinutes
def fnX_mixDoor : Nat → am_Sp := fun a => match a with
  | 0 => spX_told
  | 1 => spX_door
  | 2 => spX_done
  | 3 => spX_numbers
  | 4 => spX_chance
  | _ => am_no
theorem mfX_mixDoor : ∀ a, am_mono (fnX_mixDoor a) := fun a => match a with
  | 0 => moX_told
  | 1 => moX_door
  | 2 => moX_done
  | 3 => moX_numbers
  | 4 => moX_chance
  | _ + 5 => am_no_mono
def spX_mixDoor : am_Sp := fun as D L K => match as with
  | [.ref 0, .long x, .int y] => ∃ (v : vs_T) (d : Nat), vok v ∧ ix D v ∧ y = nI d ∧ d < 12 ∧ ∀ (D' : am_D) (L' : am_L), fc D D' → ix D' v → K (some (.long (dgDoor v x d))) D' L'
  | _ => False
theorem moX_mixDoor : am_mono spX_mixDoor := by
  intro as D L K K' hK h
  unfold spX_mixDoor at h ⊢
  split at h
  · obtain ⟨z0, z1, z2, z3, z4, z5, hz⟩ := h
    exact ⟨z0, z1, z2, z3, z4, z5, fun D' L' q1 q2 => hK _ _ _ (hz D' L' q1 q2)⟩
  · exact h
theorem wpX_mixDoor : ∀ (as : List Value) (D : am_D) (L : am_L) (K : am_K), spX_mixDoor as D L K → am_fit 7 as = true ∧ am_Wp false 0 cdX_mixDoor fnX_mixDoor K 0 (am_lo 7 as) [] D L := by
  intro as D L K h
  unfold spX_mixDoor at h
  split at h
  · rename_i x y
    obtain ⟨v, d, hv, hi, rfl, hd, hK⟩ := h
    have fin : ∀ (D' : am_D) (L' : am_L) (k6 : Option Value), fc D D' → ix D' v → am_Wp false 0 cdX_mixDoor fnX_mixDoor K 99 [some (.ref 0), some (.long x), none, some (.int (nI d)), some (.long (dgs (fun c => (nI (va v 31 (c + 1) d)).toInt64) (dgs (fun c => (nI (va v 9 (c + 1) d)).toInt64) (31 * (31 * x + (nI (vpl v 1 d)).toInt64) + (nI (vpl v 2 d)).toInt64) 3) 3)), none, k6] [] D' L' := by
      intro D' L' k6 hf hi'
      refine am_Wp_bl mfX_mixDoor [] 80 _ _ _ _ _ ?_
      (repeat ((conv => whnf); (first | refine zo0 ?_ | refine zo1 ?_ | refine br_z ?_ | refine br_o ?_ | refine br_zn ?_ | refine br_on ?_ | refine nz2 ?_ | refine nz6 ?_ | refine nz32 ?_ | refine And.intro (by assumption) ?_))); (conv => whnf)
      refine ⟨v, hv, hi', fun D1 L1 f1 i1 => ?_⟩
      have g1 := fc_tr hf f1
      rw [qDone_n (by omega)]
      (repeat ((conv => whnf); (first | refine zo0 ?_ | refine zo1 ?_ | refine br_z ?_ | refine br_o ?_ | refine br_zn ?_ | refine br_on ?_ | refine nz2 ?_ | refine nz6 ?_ | refine nz32 ?_ | refine And.intro (by assumption) ?_))); (conv => whnf)
      refine ⟨v, hv, i1, fun D2 L2 f2 i2 => ?_⟩
      have g2 := fc_tr g1 f2
      rw [qNumbers_n (by omega)]
      (repeat ((conv => whnf); (first | refine zo0 ?_ | refine zo1 ?_ | refine br_z ?_ | refine br_o ?_ | refine br_zn ?_ | refine br_on ?_ | refine nz2 ?_ | refine nz6 ?_ | refine nz32 ?_ | refine And.intro (by assumption) ?_))); (conv => whnf)
      refine ⟨v, hv, i2, fun D3 L3 f3 i3 => ?_⟩
      have g3 := fc_tr g2 f3
      rw [qChance_5 (c := 0) (by omega) (by decide +kernel) (by decide)]
      (repeat ((conv => whnf); (first | refine zo0 ?_ | refine zo1 ?_ | refine br_z ?_ | refine br_o ?_ | refine br_zn ?_ | refine br_on ?_ | refine nz2 ?_ | refine nz6 ?_ | refine nz32 ?_ | refine And.intro (by assumption) ?_))); (conv => whnf)
      refine ⟨v, hv, i3, fun D4 L4 f4 i4 => ?_⟩
      have g4 := fc_tr g3 f4
      rw [qChance_5 (c := 1) (by omega) (by decide +kernel) (by decide)]
      (repeat ((conv => whnf); (first | refine zo0 ?_ | refine zo1 ?_ | refine br_z ?_ | refine br_o ?_ | refine br_zn ?_ | refine br_on ?_ | refine nz2 ?_ | refine nz6 ?_ | refine nz32 ?_ | refine And.intro (by assumption) ?_))); (conv => whnf)
      exact hK D4 L4 g4 i4
    have lb : ∀ (m i : Nat) (D' : am_D) (L' : am_L), i + m = 3 → fc D D' → ix D' v → am_Wp false 0 cdX_mixDoor fnX_mixDoor K 68 [some (.ref 0), some (.long x), none, some (.int (nI d)), some (.long (dgs (fun c => (nI (va v 31 (c + 1) d)).toInt64) (dgs (fun c => (nI (va v 9 (c + 1) d)).toInt64) (31 * (31 * x + (nI (vpl v 1 d)).toInt64) + (nI (vpl v 2 d)).toInt64) 3) i)), none, some (.int (nI i))] [] D' L' := by
      intro m
      induction m with
      | zero =>
        intro i D' L' hm hf hi'
        refine am_Wp_bl mfX_mixDoor [68, 99] 40 _ _ _ _ _ ?_
        (repeat ((conv => whnf); (first | refine zo0 ?_ | refine zo1 ?_ | refine br_z ?_ | refine br_o ?_ | refine br_zn ?_ | refine br_on ?_ | refine nz2 ?_ | refine nz6 ?_ | refine nz32 ?_ | refine And.intro (by assumption) ?_))); (conv => whnf)
        refine ⟨fun h1 => ?_, fun h1 => absurd (nI_le (a := 3) (by omega) (by omega)) h1⟩
        (repeat ((conv => whnf); (first | refine zo0 ?_ | refine zo1 ?_ | refine br_z ?_ | refine br_o ?_ | refine br_zn ?_ | refine br_on ?_ | refine nz2 ?_ | refine nz6 ?_ | refine nz32 ?_ | refine And.intro (by assumption) ?_))); (conv => whnf)
        rw [show i = 3 by omega]
        exact fin D' L' _ hf hi'
      | succ m ih =>
        intro i D' L' hm hf hi'
        refine am_Wp_bl mfX_mixDoor [68, 99] 60 _ _ _ _ _ ?_
        (repeat ((conv => whnf); (first | refine zo0 ?_ | refine zo1 ?_ | refine br_z ?_ | refine br_o ?_ | refine br_zn ?_ | refine br_on ?_ | refine nz2 ?_ | refine nz6 ?_ | refine nz32 ?_ | refine And.intro (by assumption) ?_))); (conv => whnf)
        refine ⟨fun h1 => absurd h1 (nI_ge (b := 3) (by omega) (by omega)), fun h1 => ?_⟩
        (repeat ((conv => whnf); (first | refine zo0 ?_ | refine zo1 ?_ | refine br_z ?_ | refine br_o ?_ | refine br_zn ?_ | refine br_on ?_ | refine nz2 ?_ | refine nz6 ?_ | refine nz32 ?_ | refine And.intro (by assumption) ?_))); (conv => whnf)
        refine ⟨v, hv, hi', fun D1 L1 f1 i1 => ?_⟩
        (repeat ((conv => whnf); (first | refine zo0 ?_ | refine zo1 ?_ | refine br_z ?_ | refine br_o ?_ | refine br_zn ?_ | refine br_on ?_ | refine nz2 ?_ | refine nz6 ?_ | refine nz32 ?_ | refine And.intro (by assumption) ?_))); (conv => whnf)
        rw [nI_1, qDoor_n (t := 30) (by decide +kernel) (by decide) (by omega) (by omega)]
        exact ih (i + 1) D1 L1 (by omega) (fc_tr hf f1) i1
    have la : ∀ (m i : Nat) (D' : am_D) (L' : am_L), i + m = 3 → fc D D' → ix D' v → am_Wp false 0 cdX_mixDoor fnX_mixDoor K 34 [some (.ref 0), some (.long x), none, some (.int (nI d)), some (.long (dgs (fun c => (nI (va v 9 (c + 1) d)).toInt64) (31 * (31 * x + (nI (vpl v 1 d)).toInt64) + (nI (vpl v 2 d)).toInt64) i)), none, some (.int (nI i))] [] D' L' := by
      intro m
      induction m with
      | zero =>
        intro i D' L' hm hf hi'
        refine am_Wp_bl mfX_mixDoor [34, 68] 40 _ _ _ _ _ ?_
        (repeat ((conv => whnf); (first | refine zo0 ?_ | refine zo1 ?_ | refine br_z ?_ | refine br_o ?_ | refine br_zn ?_ | refine br_on ?_ | refine nz2 ?_ | refine nz6 ?_ | refine nz32 ?_ | refine And.intro (by assumption) ?_))); (conv => whnf)
        refine ⟨fun h1 => ?_, fun h1 => absurd (nI_le (a := 3) (by omega) (by omega)) h1⟩
        (repeat ((conv => whnf); (first | refine zo0 ?_ | refine zo1 ?_ | refine br_z ?_ | refine br_o ?_ | refine br_zn ?_ | refine br_on ?_ | refine nz2 ?_ | refine nz6 ?_ | refine nz32 ?_ | refine And.intro (by assumption) ?_))); (conv => whnf)
        rw [show i = 3 by omega]
        exact lb 3 0 D' L' (by omega) hf hi'
      | succ m ih =>
        intro i D' L' hm hf hi'
        refine am_Wp_bl mfX_mixDoor [34, 68] 60 _ _ _ _ _ ?_
        (repeat ((conv => whnf); (first | refine zo0 ?_ | refine zo1 ?_ | refine br_z ?_ | refine br_o ?_ | refine br_zn ?_ | refine br_on ?_ | refine nz2 ?_ | refine nz6 ?_ | refine nz32 ?_ | refine And.intro (by assumption) ?_))); (conv => whnf)
        refine ⟨fun h1 => absurd h1 (nI_ge (b := 3) (by omega) (by omega)), fun h1 => ?_⟩
        (repeat ((conv => whnf); (first | refine zo0 ?_ | refine zo1 ?_ | refine br_z ?_ | refine br_o ?_ | refine br_zn ?_ | refine br_on ?_ | refine nz2 ?_ | refine nz6 ?_ | refine nz32 ?_ | refine And.intro (by assumption) ?_))); (conv => whnf)
        refine ⟨v, hv, hi', fun D1 L1 f1 i1 => ?_⟩
        (repeat ((conv => whnf); (first | refine zo0 ?_ | refine zo1 ?_ | refine br_z ?_ | refine br_o ?_ | refine br_zn ?_ | refine br_on ?_ | refine nz2 ?_ | refine nz6 ?_ | refine nz32 ?_ | refine And.intro (by assumption) ?_))); (conv => whnf)
        rw [nI_1, qDoor_n (t := 8) (by decide +kernel) (by decide) (by omega) (by omega)]
        exact ih (i + 1) D1 L1 (by omega) (fc_tr hf f1) i1
    refine ⟨rfl, am_Wp_bl mfX_mixDoor [34] 60 _ _ _ _ _ ?_⟩
    (repeat ((conv => whnf); (first | refine zo0 ?_ | refine zo1 ?_ | refine br_z ?_ | refine br_o ?_ | refine br_zn ?_ | refine br_on ?_ | refine nz2 ?_ | refine nz6 ?_ | refine nz32 ?_ | refine And.intro (by assumption) ?_))); (conv => whnf)
    refine ⟨v, hv, hi, fun D1 L1 f1 i1 => ?_⟩
    rw [qTold_0 (by omega)]
    (repeat ((conv => whnf); (first | refine zo0 ?_ | refine zo1 ?_ | refine br_z ?_ | refine br_o ?_ | refine br_zn ?_ | refine br_on ?_ | refine nz2 ?_ | refine nz6 ?_ | refine nz32 ?_ | refine And.intro (by assumption) ?_))); (conv => whnf)
    refine ⟨v, hv, i1, fun D2 L2 f2 i2 => ?_⟩
    rw [qTold_1 (by omega)]
    (repeat ((conv => whnf); (first | refine zo0 ?_ | refine zo1 ?_ | refine br_z ?_ | refine br_o ?_ | refine br_zn ?_ | refine br_on ?_ | refine nz2 ?_ | refine nz6 ?_ | refine nz32 ?_ | refine And.intro (by assumption) ?_))); (conv => whnf)
    exact la 3 0 D2 L2 (by omega) (fc_tr f1 f2) i2
  · exact absurd h id
theorem clX_mixDoor (l : Launch) : ∀ (a : Nat) (ins : Instr) (b dd : Nat), csX_mixDoor[a]? = some (ins, b, dd) → am_Call l yX_mixDoor.cls 6 ins b dd (fnX_mixDoor a) := by
  intro a ins b dd h
  match a, h with
  | 0, h => cases h; exact am_callV (T := F_10) (N := 17) (okX_told l) wcX_told (am_m4 (i := 82) rfl rfl) wiX_told wsX_told inX rfl (by decide) (by decide +kernel) (by decide) (by decide)
  | 1, h => cases h; exact am_callV (T := F_10) (N := 17) (okX_door l) wcX_door (am_m4 (i := 83) rfl rfl) wiX_door wsX_door inX rfl (by decide) (by decide +kernel) (by decide) (by decide)
  | 2, h => cases h; exact am_callV (T := F_10) (N := 17) (okX_done l) wcX_done (am_m4 (i := 84) rfl rfl) wiX_done wsX_done inX rfl (by decide) (by decide +kernel) (by decide) (by decide)
  | 3, h => cases h; exact am_callV (T := F_10) (N := 17) (okX_numbers l) wcX_numbers (am_m4 (i := 85) rfl rfl) wiX_numbers wsX_numbers inX rfl (by decide) (by decide +kernel) (by decide) (by decide)
  | 4, h => cases h; exact am_callV (T := F_10) (N := 17) (okX_chance l) wcX_chance (am_m4 (i := 86) rfl rfl) wiX_chance wsX_chance inX rfl (by decide) (by decide +kernel) (by decide) (by decide)
  | k + 5, h => simp [csX_mixDoor] at h
theorem okX_mixDoor (l : Launch) : am_Ok l yX_mixDoor prog_1_method_40_code 7 (some .long) 6 spX_mixDoor := am_ok_of (by decide +kernel) flX_ok kiX_ok klX_ok ckX_mixDoor (clX_mixDoor l) wpX_mixDoor
def fnX_digest : Nat → am_Sp := fun a => match a with
  | 0 => spX_mixTold
  | 1 => spX_mixMinutes
  | 2 => spX_mixDoor
  | 3 => spX_sum
  | 4 => spX_over
  | 5 => spX_lacks
  | 6 => spX_better
  | 7 => spX_fit
  | 8 => spX_swap
  | 9 => spX_spare
  | 10 => spX_never
  | 11 => spX_might
  | 12 => spX_ask
  | 13 => spX_mornings
  | _ => am_no
theorem mfX_digest : ∀ a, am_mono (fnX_digest a) := fun a => match a with
  | 0 => moX_mixTold
  | 1 => moX_mixMinutes
  | 2 => moX_mixDoor
  | 3 => moX_sum
  | 4 => moX_over
  | 5 => moX_lacks
  | 6 => moX_better
  | 7 => moX_fit
  | 8 => moX_swap
  | 9 => moX_spare
  | 10 => moX_never
  | 11 => moX_might
  | 12 => moX_ask
  | 13 => moX_mornings
  | _ + 14 => am_no_mono
def spX_digest : am_Sp := fun as D L K => match as with
  | [.ref 0] => ∃ v : vs_T, vok v ∧ ix D v ∧ ∀ (D' : am_D) (L' : am_L), fc D D' → ix D' v → K (some (.long (qDigest v))) D' L'
  | _ => False
theorem moX_digest : am_mono spX_digest := by
  intro as D L K K' hK h
  unfold spX_digest at h ⊢
  split at h
  · obtain ⟨z0, z1, z2, hz⟩ := h
    exact ⟨z0, z1, z2, fun D' L' q1 q2 => hK _ _ _ (hz D' L' q1 q2)⟩
  · exact h
theorem wpX_digest : ∀ (as : List Value) (D : am_D) (L : am_L) (K : am_K), spX_digest as D L K → am_fit 4 as = true ∧ am_Wp false 0 cdX_digest fnX_digest K 0 (am_lo 4 as) [] D L := by
  intro as D L K h
  unfold spX_digest at h
  split at h
  · obtain ⟨v, hv, hi, hK⟩ := h
    have fin : ∀ (D0 : am_D) (L0 : am_L) (k3 : Option Value), fc D D0 → ix D0 v → am_Wp false 0 cdX_digest fnX_digest K 163 [some (.ref 0), some (.long (dgs (fun c => (swI (aSwap v) c).toInt64) (dgs (fun c => (pI (aFit v) c).toInt64) (dgs (fun c => (pI (aBetter v) c).toInt64) (dg7 v) 3) 3) 4)), none, k3] [] D0 L0 := by
      intro D0 L0 k3 g0 i0
      refine am_Wp_bl mfX_digest [] 140 _ _ _ _ _ ?_
      (repeat ((conv => whnf); (first | refine zo0 ?_ | refine zo1 ?_ | refine br_z ?_ | refine br_o ?_ | refine br_zn ?_ | refine br_on ?_ | refine nz2 ?_ | refine nz6 ?_ | refine nz32 ?_ | refine And.intro (by assumption) ?_))); (conv => whnf)
      refine ⟨v, hv, i0, fun D1 L1 f1 i1 => ?_⟩
      have g1 := fc_tr g0 f1
      rw [qSpare_m]
      (repeat ((conv => whnf); (first | refine zo0 ?_ | refine zo1 ?_ | refine br_z ?_ | refine br_o ?_ | refine br_zn ?_ | refine br_on ?_ | refine nz2 ?_ | refine nz6 ?_ | refine nz32 ?_ | refine And.intro (by assumption) ?_))); (conv => whnf)
      refine ⟨v, hv, i1, fun D2 L2 f2 i2 => ?_⟩
      have g2 := fc_tr g1 f2
      rw [qSpare_0]
      (repeat ((conv => whnf); (first | refine zo0 ?_ | refine zo1 ?_ | refine br_z ?_ | refine br_o ?_ | refine br_zn ?_ | refine br_on ?_ | refine nz2 ?_ | refine nz6 ?_ | refine nz32 ?_ | refine And.intro (by assumption) ?_))); (conv => whnf)
      refine ⟨v, hv, i2, fun D3 L3 f3 i3 => ?_⟩
      have g3 := fc_tr g2 f3
      (repeat ((conv => whnf); (first | refine zo0 ?_ | refine zo1 ?_ | refine br_z ?_ | refine br_o ?_ | refine br_zn ?_ | refine br_on ?_ | refine nz2 ?_ | refine nz6 ?_ | refine nz32 ?_ | refine And.intro (by assumption) ?_))); (conv => whnf)
      refine ⟨v, hv, i3, fun D4 L4 f4 i4 => ?_⟩
      have g4 := fc_tr g3 f4
      rw [qMight_0]
      (repeat ((conv => whnf); (first | refine zo0 ?_ | refine zo1 ?_ | refine br_z ?_ | refine br_o ?_ | refine br_zn ?_ | refine br_on ?_ | refine nz2 ?_ | refine nz6 ?_ | refine nz32 ?_ | refine And.intro (by assumption) ?_))); (conv => whnf)
      refine ⟨v, hv, i4, fun D5 L5 f5 i5 => ?_⟩
      have g5 := fc_tr g4 f5
      rw [qMight_1]
      (repeat ((conv => whnf); (first | refine zo0 ?_ | refine zo1 ?_ | refine br_z ?_ | refine br_o ?_ | refine br_zn ?_ | refine br_on ?_ | refine nz2 ?_ | refine nz6 ?_ | refine nz32 ?_ | refine And.intro (by assumption) ?_))); (conv => whnf)
      refine ⟨v, hv, i5, fun D6 L6 f6 i6 => ?_⟩
      have g6 := fc_tr g5 f6
      (repeat ((conv => whnf); (first | refine zo0 ?_ | refine zo1 ?_ | refine br_z ?_ | refine br_o ?_ | refine br_zn ?_ | refine br_on ?_ | refine nz2 ?_ | refine nz6 ?_ | refine nz32 ?_ | refine And.intro (by assumption) ?_))); (conv => whnf)
      refine ⟨v, hv, i6, fun D7 L7 f7 i7 => ?_⟩
      have g7 := fc_tr g6 f7
      rw [qMorn_79 (c := 0) (by decide +kernel) (by decide)]
      (repeat ((conv => whnf); (first | refine zo0 ?_ | refine zo1 ?_ | refine br_z ?_ | refine br_o ?_ | refine br_zn ?_ | refine br_on ?_ | refine nz2 ?_ | refine nz6 ?_ | refine nz32 ?_ | refine And.intro (by assumption) ?_))); (conv => whnf)
      refine ⟨v, hv, i7, fun D8 L8 f8 i8 => ?_⟩
      have g8 := fc_tr g7 f8
      rw [qMorn_79 (c := 1) (by decide +kernel) (by decide)]
      (repeat ((conv => whnf); (first | refine zo0 ?_ | refine zo1 ?_ | refine br_z ?_ | refine br_o ?_ | refine br_zn ?_ | refine br_on ?_ | refine nz2 ?_ | refine nz6 ?_ | refine nz32 ?_ | refine And.intro (by assumption) ?_))); (conv => whnf)
      exact hK D8 L8 g8 i8
    have p3 : ∀ (m i : Nat) (D' : am_D) (L' : am_L), i + m = 4 → fc D D' → ix D' v → am_Wp false 0 cdX_digest fnX_digest K 139 [some (.ref 0), some (.long (dgs (fun c => (swI (aSwap v) c).toInt64) (dgs (fun c => (pI (aFit v) c).toInt64) (dgs (fun c => (pI (aBetter v) c).toInt64) (dg7 v) 3) 3) i)), none, some (.int (nI i))] [] D' L' := by
      intro m
      induction m with
      | zero =>
        intro i D' L' hm hf hi'
        refine am_Wp_bl mfX_digest [139, 163] 40 _ _ _ _ _ ?_
        (repeat ((conv => whnf); (first | refine zo0 ?_ | refine zo1 ?_ | refine br_z ?_ | refine br_o ?_ | refine br_zn ?_ | refine br_on ?_ | refine nz2 ?_ | refine nz6 ?_ | refine nz32 ?_ | refine And.intro (by assumption) ?_))); (conv => whnf)
        refine ⟨fun h1 => ?_, fun h1 => absurd (nI_lt (a := 3) (b := i) (by omega) (by omega)) h1⟩
        (repeat ((conv => whnf); (first | refine zo0 ?_ | refine zo1 ?_ | refine br_z ?_ | refine br_o ?_ | refine br_zn ?_ | refine br_on ?_ | refine nz2 ?_ | refine nz6 ?_ | refine nz32 ?_ | refine And.intro (by assumption) ?_))); (conv => whnf)
        rw [show i = 4 by omega]
        exact fin D' L' _ hf hi'
      | succ m ih =>
        intro i D' L' hm hf hi'
        refine am_Wp_bl mfX_digest [139, 163] 60 _ _ _ _ _ ?_
        (repeat ((conv => whnf); (first | refine zo0 ?_ | refine zo1 ?_ | refine br_z ?_ | refine br_o ?_ | refine br_zn ?_ | refine br_on ?_ | refine nz2 ?_ | refine nz6 ?_ | refine nz32 ?_ | refine And.intro (by assumption) ?_))); (conv => whnf)
        refine ⟨fun h1 => absurd h1 (nI_nlt (a := 3) (b := i) (by omega) (by omega)), fun h1 => ?_⟩
        (repeat ((conv => whnf); (first | refine zo0 ?_ | refine zo1 ?_ | refine br_z ?_ | refine br_o ?_ | refine br_zn ?_ | refine br_on ?_ | refine nz2 ?_ | refine nz6 ?_ | refine nz32 ?_ | refine And.intro (by assumption) ?_))); (conv => whnf)
        refine ⟨v, hv, hi', fun D1 L1 f1 i1 => ?_⟩
        (repeat ((conv => whnf); (first | refine zo0 ?_ | refine zo1 ?_ | refine br_z ?_ | refine br_o ?_ | refine br_zn ?_ | refine br_on ?_ | refine nz2 ?_ | refine nz6 ?_ | refine nz32 ?_ | refine And.intro (by assumption) ?_))); (conv => whnf)
        rw [nI_1, qSwap_n (by omega)]
        exact ih (i + 1) D1 L1 (by omega) (fc_tr hf f1) i1
    have p2 : ∀ (m i : Nat) (D' : am_D) (L' : am_L), i + m = 3 → fc D D' → ix D' v → am_Wp false 0 cdX_digest fnX_digest K 113 [some (.ref 0), some (.long (dgs (fun c => (pI (aFit v) c).toInt64) (dgs (fun c => (pI (aBetter v) c).toInt64) (dg7 v) 3) i)), none, some (.int (nI i))] [] D' L' := by
      intro m
      induction m with
      | zero =>
        intro i D' L' hm hf hi'
        refine am_Wp_bl mfX_digest [113, 139] 40 _ _ _ _ _ ?_
        (repeat ((conv => whnf); (first | refine zo0 ?_ | refine zo1 ?_ | refine br_z ?_ | refine br_o ?_ | refine br_zn ?_ | refine br_on ?_ | refine nz2 ?_ | refine nz6 ?_ | refine nz32 ?_ | refine And.intro (by assumption) ?_))); (conv => whnf)
        refine ⟨fun h1 => ?_, fun h1 => absurd (nI_lt (a := 2) (b := i) (by omega) (by omega)) h1⟩
        (repeat ((conv => whnf); (first | refine zo0 ?_ | refine zo1 ?_ | refine br_z ?_ | refine br_o ?_ | refine br_zn ?_ | refine br_on ?_ | refine nz2 ?_ | refine nz6 ?_ | refine nz32 ?_ | refine And.intro (by assumption) ?_))); (conv => whnf)
        rw [show i = 3 by omega]
        exact p3 4 0 D' L' (by omega) hf hi'
      | succ m ih =>
        intro i D' L' hm hf hi'
        refine am_Wp_bl mfX_digest [113, 139] 60 _ _ _ _ _ ?_
        (repeat ((conv => whnf); (first | refine zo0 ?_ | refine zo1 ?_ | refine br_z ?_ | refine br_o ?_ | refine br_zn ?_ | refine br_on ?_ | refine nz2 ?_ | refine nz6 ?_ | refine nz32 ?_ | refine And.intro (by assumption) ?_))); (conv => whnf)
        refine ⟨fun h1 => absurd h1 (nI_nlt (a := 2) (b := i) (by omega) (by omega)), fun h1 => ?_⟩
        (repeat ((conv => whnf); (first | refine zo0 ?_ | refine zo1 ?_ | refine br_z ?_ | refine br_o ?_ | refine br_zn ?_ | refine br_on ?_ | refine nz2 ?_ | refine nz6 ?_ | refine nz32 ?_ | refine And.intro (by assumption) ?_))); (conv => whnf)
        refine ⟨v, hv, hi', fun D1 L1 f1 i1 => ?_⟩
        (repeat ((conv => whnf); (first | refine zo0 ?_ | refine zo1 ?_ | refine br_z ?_ | refine br_o ?_ | refine br_zn ?_ | refine br_on ?_ | refine nz2 ?_ | refine nz6 ?_ | refine nz32 ?_ | refine And.intro (by assumption) ?_))); (conv => whnf)
        rw [nI_1, qFit_n (by omega)]
        exact ih (i + 1) D1 L1 (by omega) (fc_tr hf f1) i1
    have p1 : ∀ (m i : Nat) (D' : am_D) (L' : am_L), i + m = 3 → fc D D' → ix D' v → am_Wp false 0 cdX_digest fnX_digest K 87 [some (.ref 0), some (.long (dgs (fun c => (pI (aBetter v) c).toInt64) (dg7 v) i)), none, some (.int (nI i))] [] D' L' := by
      intro m
      induction m with
      | zero =>
        intro i D' L' hm hf hi'
        refine am_Wp_bl mfX_digest [87, 113] 40 _ _ _ _ _ ?_
        (repeat ((conv => whnf); (first | refine zo0 ?_ | refine zo1 ?_ | refine br_z ?_ | refine br_o ?_ | refine br_zn ?_ | refine br_on ?_ | refine nz2 ?_ | refine nz6 ?_ | refine nz32 ?_ | refine And.intro (by assumption) ?_))); (conv => whnf)
        refine ⟨fun h1 => ?_, fun h1 => absurd (nI_lt (a := 2) (b := i) (by omega) (by omega)) h1⟩
        (repeat ((conv => whnf); (first | refine zo0 ?_ | refine zo1 ?_ | refine br_z ?_ | refine br_o ?_ | refine br_zn ?_ | refine br_on ?_ | refine nz2 ?_ | refine nz6 ?_ | refine nz32 ?_ | refine And.intro (by assumption) ?_))); (conv => whnf)
        rw [show i = 3 by omega]
        exact p2 3 0 D' L' (by omega) hf hi'
      | succ m ih =>
        intro i D' L' hm hf hi'
        refine am_Wp_bl mfX_digest [87, 113] 60 _ _ _ _ _ ?_
        (repeat ((conv => whnf); (first | refine zo0 ?_ | refine zo1 ?_ | refine br_z ?_ | refine br_o ?_ | refine br_zn ?_ | refine br_on ?_ | refine nz2 ?_ | refine nz6 ?_ | refine nz32 ?_ | refine And.intro (by assumption) ?_))); (conv => whnf)
        refine ⟨fun h1 => absurd h1 (nI_nlt (a := 2) (b := i) (by omega) (by omega)), fun h1 => ?_⟩
        (repeat ((conv => whnf); (first | refine zo0 ?_ | refine zo1 ?_ | refine br_z ?_ | refine br_o ?_ | refine br_zn ?_ | refine br_on ?_ | refine nz2 ?_ | refine nz6 ?_ | refine nz32 ?_ | refine And.intro (by assumption) ?_))); (conv => whnf)
        refine ⟨v, hv, hi', fun D1 L1 f1 i1 => ?_⟩
        (repeat ((conv => whnf); (first | refine zo0 ?_ | refine zo1 ?_ | refine br_z ?_ | refine br_o ?_ | refine br_zn ?_ | refine br_on ?_ | refine nz2 ?_ | refine nz6 ?_ | refine nz32 ?_ | refine And.intro (by assumption) ?_))); (conv => whnf)
        rw [nI_1, qBetter_n (by omega)]
        exact ih (i + 1) D1 L1 (by omega) (fc_tr hf f1) i1
    have mid : ∀ (D0 : am_D) (L0 : am_L) (k3 : Option Value), fc D D0 → ix D0 v → am_Wp false 0 cdX_digest fnX_digest K 61 [some (.ref 0), some (.long (dg6 v)), none, k3] [] D0 L0 := by
      intro D0 L0 k3 g0 i0
      refine am_Wp_bl mfX_digest [87] 60 _ _ _ _ _ ?_
      (repeat ((conv => whnf); (first | refine zo0 ?_ | refine zo1 ?_ | refine br_z ?_ | refine br_o ?_ | refine br_zn ?_ | refine br_on ?_ | refine nz2 ?_ | refine nz6 ?_ | refine nz32 ?_ | refine And.intro (by assumption) ?_))); (conv => whnf)
      refine ⟨v, hv, i0, fun D1 L1 f1 i1 => ?_⟩
      have g1 := fc_tr g0 f1
      (repeat ((conv => whnf); (first | refine zo0 ?_ | refine zo1 ?_ | refine br_z ?_ | refine br_o ?_ | refine br_zn ?_ | refine br_on ?_ | refine nz2 ?_ | refine nz6 ?_ | refine nz32 ?_ | refine And.intro (by assumption) ?_))); (conv => whnf)
      refine ⟨v, hv, i1, fun D2 L2 f2 i2 => ?_⟩
      have g2 := fc_tr g1 f2
      (repeat ((conv => whnf); (first | refine zo0 ?_ | refine zo1 ?_ | refine br_z ?_ | refine br_o ?_ | refine br_zn ?_ | refine br_on ?_ | refine nz2 ?_ | refine nz6 ?_ | refine nz32 ?_ | refine And.intro (by assumption) ?_))); (conv => whnf)
      exact p1 3 0 D2 L2 (by omega) g2 i2
    have l6 : ∀ (m i : Nat) (D' : am_D) (L' : am_L), i + m = 5 → fc D D' → ix D' v → am_Wp false 0 cdX_digest fnX_digest K 37 [some (.ref 0), some (.long (dgs (fun c => (nI (va v 48 0 (suIx c))).toInt64) (dg5 v) i)), none, some (.int (nI i))] [] D' L' := by
      intro m
      induction m with
      | zero =>
        intro i D' L' hm hf hi'
        refine am_Wp_bl mfX_digest [37, 61] 40 _ _ _ _ _ ?_
        (repeat ((conv => whnf); (first | refine zo0 ?_ | refine zo1 ?_ | refine br_z ?_ | refine br_o ?_ | refine br_zn ?_ | refine br_on ?_ | refine nz2 ?_ | refine nz6 ?_ | refine nz32 ?_ | refine And.intro (by assumption) ?_))); (conv => whnf)
        refine ⟨fun h1 => ?_, fun h1 => absurd (nI_le (a := 5) (by omega) (by omega)) h1⟩
        (repeat ((conv => whnf); (first | refine zo0 ?_ | refine zo1 ?_ | refine br_z ?_ | refine br_o ?_ | refine br_zn ?_ | refine br_on ?_ | refine nz2 ?_ | refine nz6 ?_ | refine nz32 ?_ | refine And.intro (by assumption) ?_))); (conv => whnf)
        rw [show i = 5 by omega]
        exact mid D' L' _ hf hi'
      | succ m ih =>
        intro i D' L' hm hf hi'
        refine am_Wp_bl mfX_digest [37, 61] 60 _ _ _ _ _ ?_
        (repeat ((conv => whnf); (first | refine zo0 ?_ | refine zo1 ?_ | refine br_z ?_ | refine br_o ?_ | refine br_zn ?_ | refine br_on ?_ | refine nz2 ?_ | refine nz6 ?_ | refine nz32 ?_ | refine And.intro (by assumption) ?_))); (conv => whnf)
        refine ⟨fun h1 => absurd h1 (nI_ge (b := 5) (by omega) (by omega)), fun h1 => ?_⟩
        (repeat ((conv => whnf); (first | refine zo0 ?_ | refine zo1 ?_ | refine br_z ?_ | refine br_o ?_ | refine br_zn ?_ | refine br_on ?_ | refine nz2 ?_ | refine nz6 ?_ | refine nz32 ?_ | refine And.intro (by assumption) ?_))); (conv => whnf)
        refine ⟨v, hv, hi', fun D1 L1 f1 i1 => ?_⟩
        (repeat ((conv => whnf); (first | refine zo0 ?_ | refine zo1 ?_ | refine br_z ?_ | refine br_o ?_ | refine br_zn ?_ | refine br_on ?_ | refine nz2 ?_ | refine nz6 ?_ | refine nz32 ?_ | refine And.intro (by assumption) ?_))); (conv => whnf)
        rw [nI_1, qSum_n (by omega)]
        exact ih (i + 1) D1 L1 (by omega) (fc_tr hf f1) i1
    have l5 : ∀ (m i : Nat) (D' : am_D) (L' : am_L), i + m = 12 → fc D D' → ix D' v → am_Wp false 0 cdX_digest fnX_digest K 16 [some (.ref 0), some (.long (dgd v (dg4 v) i)), none, some (.int (nI i))] [] D' L' := by
      intro m
      induction m with
      | zero =>
        intro i D' L' hm hf hi'
        refine am_Wp_bl mfX_digest [16, 37] 40 _ _ _ _ _ ?_
        (repeat ((conv => whnf); (first | refine zo0 ?_ | refine zo1 ?_ | refine br_z ?_ | refine br_o ?_ | refine br_zn ?_ | refine br_on ?_ | refine nz2 ?_ | refine nz6 ?_ | refine nz32 ?_ | refine And.intro (by assumption) ?_))); (conv => whnf)
        refine ⟨fun h1 => ?_, fun h1 => absurd (nI_le (a := 12) (by omega) (by omega)) h1⟩
        (repeat ((conv => whnf); (first | refine zo0 ?_ | refine zo1 ?_ | refine br_z ?_ | refine br_o ?_ | refine br_zn ?_ | refine br_on ?_ | refine nz2 ?_ | refine nz6 ?_ | refine nz32 ?_ | refine And.intro (by assumption) ?_))); (conv => whnf)
        rw [show i = 12 by omega]
        exact l6 5 0 D' L' (by omega) hf hi'
      | succ m ih =>
        intro i D' L' hm hf hi'
        refine am_Wp_bl mfX_digest [16, 37] 60 _ _ _ _ _ ?_
        (repeat ((conv => whnf); (first | refine zo0 ?_ | refine zo1 ?_ | refine br_z ?_ | refine br_o ?_ | refine br_zn ?_ | refine br_on ?_ | refine nz2 ?_ | refine nz6 ?_ | refine nz32 ?_ | refine And.intro (by assumption) ?_))); (conv => whnf)
        refine ⟨fun h1 => absurd h1 (nI_ge (b := 12) (by omega) (by omega)), fun h1 => ?_⟩
        (repeat ((conv => whnf); (first | refine zo0 ?_ | refine zo1 ?_ | refine br_z ?_ | refine br_o ?_ | refine br_zn ?_ | refine br_on ?_ | refine nz2 ?_ | refine nz6 ?_ | refine nz32 ?_ | refine And.intro (by assumption) ?_))); (conv => whnf)
        refine ⟨v, i, hv, hi', rfl, by omega, fun D1 L1 f1 i1 => ?_⟩
        (repeat ((conv => whnf); (first | refine zo0 ?_ | refine zo1 ?_ | refine br_z ?_ | refine br_o ?_ | refine br_zn ?_ | refine br_on ?_ | refine nz2 ?_ | refine nz6 ?_ | refine nz32 ?_ | refine And.intro (by assumption) ?_))); (conv => whnf)
        rw [nI_1]
        exact ih (i + 1) D1 L1 (by omega) (fc_tr hf f1) i1
    refine ⟨rfl, am_Wp_bl mfX_digest [16] 60 _ _ _ _ _ ?_⟩
    (repeat ((conv => whnf); (first | refine zo0 ?_ | refine zo1 ?_ | refine br_z ?_ | refine br_o ?_ | refine br_zn ?_ | refine br_on ?_ | refine nz2 ?_ | refine nz6 ?_ | refine nz32 ?_ | refine And.intro (by assumption) ?_))); (conv => whnf)
    refine ⟨v, hv, hi, fun D1 L1 f1 i1 => ?_⟩
    rw [dgT_17]
    (repeat ((conv => whnf); (first | refine zo0 ?_ | refine zo1 ?_ | refine br_z ?_ | refine br_o ?_ | refine br_zn ?_ | refine br_on ?_ | refine nz2 ?_ | refine nz6 ?_ | refine nz32 ?_ | refine And.intro (by assumption) ?_))); (conv => whnf)
    refine ⟨v, hv, i1, fun D2 L2 f2 i2 => ?_⟩
    (repeat ((conv => whnf); (first | refine zo0 ?_ | refine zo1 ?_ | refine br_z ?_ | refine br_o ?_ | refine br_zn ?_ | refine br_on ?_ | refine nz2 ?_ | refine nz6 ?_ | refine nz32 ?_ | refine And.intro (by assumption) ?_))); (conv => whnf)
    exact l5 12 0 D2 L2 (by omega) (fc_tr f1 f2) i2
  · exact absurd h id
theorem clX_digest (l : Launch) : ∀ (a : Nat) (ins : Instr) (b dd : Nat), csX_digest[a]? = some (ins, b, dd) → am_Call l yX_digest.cls 7 ins b dd (fnX_digest a) := by
  intro a ins b dd h
  match a, h with
  | 0, h => cases h; exact am_callV (T := F_10) (N := 17) (okX_mixTold l) wcX_mixTold (am_m4 (i := 65) rfl rfl) wiX_mixTold wsX_mixTold inX rfl (by decide) (by decide +kernel) (by decide) (by decide)
  | 1, h => cases h; exact am_callV (T := F_10) (N := 17) (okX_mixMinutes l) wcX_mixMinutes (am_m4 (i := 73) rfl rfl) wiX_mixMinutes wsX_mixMinutes inX rfl (by decide) (by decide +kernel) (by decide) (by decide)
  | 2, h => cases h; exact am_callV (T := F_10) (N := 17) (okX_mixDoor l) wcX_mixDoor (am_m4 (i := 78) rfl rfl) wiX_mixDoor wsX_mixDoor inX rfl (by decide) (by decide +kernel) (by decide) (by decide)
  | 3, h => cases h; exact am_callV (T := F_10) (N := 17) (okX_sum l) wcX_sum (am_m4 (i := 87) rfl rfl) wiX_sum wsX_sum inX rfl (by decide) (by decide +kernel) (by decide) (by decide)
  | 4, h => cases h; exact am_callV (T := F_10) (N := 17) (okX_over l) wcX_over (am_m4 (i := 88) rfl rfl) wiX_over wsX_over inX rfl (by decide) (by decide +kernel) (by decide) (by decide)
  | 5, h => cases h; exact am_callV (T := F_10) (N := 17) (okX_lacks l) wcX_lacks (am_m4 (i := 89) rfl rfl) wiX_lacks wsX_lacks inX rfl (by decide) (by decide +kernel) (by decide) (by decide)
  | 6, h => cases h; exact am_callV (T := F_10) (N := 17) (okX_better l) wcX_better (am_m4 (i := 90) rfl rfl) wiX_better wsX_better inX rfl (by decide) (by decide +kernel) (by decide) (by decide)
  | 7, h => cases h; exact am_callV (T := F_10) (N := 17) (okX_fit l) wcX_fit (am_m4 (i := 91) rfl rfl) wiX_fit wsX_fit inX rfl (by decide) (by decide +kernel) (by decide) (by decide)
  | 8, h => cases h; exact am_callV (T := F_10) (N := 17) (okX_swap l) wcX_swap (am_m4 (i := 92) rfl rfl) wiX_swap wsX_swap inX rfl (by decide) (by decide +kernel) (by decide) (by decide)
  | 9, h => cases h; exact am_callV (T := F_10) (N := 17) (okX_spare l) wcX_spare (am_m4 (i := 93) rfl rfl) wiX_spare wsX_spare inX rfl (by decide) (by decide +kernel) (by decide) (by decide)
  | 10, h => cases h; exact am_callV (T := F_10) (N := 17) (okX_never l) wcX_never (am_m4 (i := 94) rfl rfl) wiX_never wsX_never inX rfl (by decide) (by decide +kernel) (by decide) (by decide)
  | 11, h => cases h; exact am_callV (T := F_10) (N := 17) (okX_might l) wcX_might (am_m4 (i := 95) rfl rfl) wiX_might wsX_might inX rfl (by decide) (by decide +kernel) (by decide) (by decide)
  | 12, h => cases h; exact am_callV (T := F_10) (N := 17) (okX_ask l) wcX_ask (am_m4 (i := 96) rfl rfl) wiX_ask wsX_ask inX rfl (by decide) (by decide +kernel) (by decide) (by decide)
  | 13, h => cases h; exact am_callV (T := F_10) (N := 17) (okX_mornings l) wcX_mornings (am_m4 (i := 97) rfl rfl) wiX_mornings wsX_mornings inX rfl (by decide) (by decide +kernel) (by decide) (by decide)
  | k + 14, h => simp [csX_digest] at h
theorem okX_digest (l : Launch) : am_Ok l yX_digest prog_1_method_37_code 4 (some .long) 7 spX_digest := am_ok_of (by decide +kernel) flX_ok kiX_ok klX_ok ckX_digest (clX_digest l) wpX_digest
