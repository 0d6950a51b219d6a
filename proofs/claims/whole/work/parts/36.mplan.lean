/-! which horse, which crate -/
def pH (P : mw_T) (h : Nat) : mw_T := up2 P 0 1 h
def pR (P : mw_T) (r : Nat) : mw_T := up2 P 0 2 r
theorem pH_ok {P : mw_T} {h : Nat} (hP : mw_pok P) (hh : h ≤ 2) : mw_pok (pH P h) := by
  obtain ⟨q1, q2, q3, q4, q5, q6, q7⟩ := hP
  exact ⟨q1, hh, q3, q4, q5, q6, q7⟩
theorem pR_ok {P : mw_T} {r : Nat} (hP : mw_pok P) (h1 : 1 ≤ r) (h2 : r ≤ 8) : mw_pok (pR P r) := by
  obtain ⟨q1, q2, q3, q4, q5, q6, q7⟩ := hP
  exact ⟨q1, q2, h1, h2, q5, q6, q7⟩
theorem pm_H {D : am_D} {P : mw_T} (h : Nat) (hp : pm D P) : pm (am_up D 49 13 (nI h)) (pH P h) := by
  obtain ⟨p1, p2, p3, p4, p5, p6⟩ := hp
  refine ⟨?_, ?_, ?_, ?_, ?_, ?_⟩
  · rw [am_up_eq]; exact p1
  · rw [am_up_eq]; simp [upd, pH, up2]
  · rw [am_up_eq]; exact p3
  · rw [am_up_ne (by decide)]; exact p4
  · rw [am_up_ne (by decide), am_up_ne (by decide)]; exact p5
  · rw [am_up_ne (by decide)]; exact p6
theorem pm_R {D : am_D} {P : mw_T} (r : Nat) (hp : pm D P) : pm (am_up D 49 14 (nI r)) (pR P r) := by
  obtain ⟨p1, p2, p3, p4, p5, p6⟩ := hp
  refine ⟨?_, ?_, ?_, ?_, ?_, ?_⟩
  · rw [am_up_eq]; exact p1
  · rw [am_up_eq]; exact p2
  · rw [am_up_eq]; simp [upd, pR, up2]
  · rw [am_up_ne (by decide)]; exact p4
  · rw [am_up_ne (by decide), am_up_ne (by decide)]; exact p5
  · rw [am_up_ne (by decide)]; exact p6
theorem pH_H (P : mw_T) (a b : Nat) : pH (pH P a) b = pH P b := by
  funext c i
  unfold pH up2
  by_cases h : c = 0
  · subst h
    by_cases hi : i = 1 <;> simp [hi]
  · simp [h]
theorem pR_R (P : mw_T) (a b : Nat) : pR (pR P a) b = pR P b := by
  funext c i
  unfold pR up2
  by_cases h : c = 0
  · subst h
    by_cases hi : i = 2 <;> simp [hi]
  · simp [h]
def aBetter (v : vs_T) : Option (Nat × Nat × Nat) := mpicks (pH (vpl v)) (vev v) allp 0 3
def aFit (v : vs_T) : Option (Nat × Nat × Nat) := mpicks (pR (vpl v)) (vev v) allp 1 8
def fnM_betterOf : Nat → am_Sp := fun a => match a with
  | 0 => spM_starts
  | 1 => spM_tries
  | _ => am_no
theorem mfM_betterOf : ∀ a, am_mono (fnM_betterOf a) := fun a => match a with
  | 0 => moM_starts
  | 1 => moM_tries
  | _ + 2 => am_no_mono
def spM_betterOf : am_Sp := fun as D L K => match as with
  | [.ref 49, .int y] => ∃ (v : vs_T) (c : Nat), vok v ∧ im D v ∧ y = nI c ∧ c < 3 ∧ ∀ D', fq D D' → K (some (.int (pI (aBetter v) c))) D' L
  | _ => False
theorem moM_betterOf : am_mono spM_betterOf := by
  intro as D L K K' hK h
  unfold spM_betterOf at h ⊢
  split at h
  · obtain ⟨z0, z1, z2, z3, z4, z5, hz⟩ := h
    exact ⟨z0, z1, z2, z3, z4, z5, fun D' q => hK _ _ _ (hz D' q)⟩
  · exact h
theorem wpM_betterOf : ∀ (as : List Value) (D : am_D) (L : am_L) (K : am_K), spM_betterOf as D L K → am_fit 3 as = true ∧ am_Wp false 0 cdM_betterOf fnM_betterOf K 0 (am_lo 3 as) [] D L := by
  intro as D L K h
  unfold spM_betterOf at h
  split at h
  · obtain ⟨v, c, hv, hi, rfl, hc, hK⟩ := h
    have hP := vpl_ok hv
    have hE := vev_ok hv
    have c0 : nI c = 0 ↔ c = 0 := by rw [← nI_0, nI_eq (by omega) (by omega)]
    have c1 : nI c = 1 ↔ c = 1 := by rw [← nc1, nI_eq (by omega) (by omega)]
    have loop : ∀ (m i : Nat) (D' : am_D), i + m = 3 → fq D D' → D' 49 15 = 0 → (∃ P', pm D' P' ∧ ∀ b, pH P' b = pH (vpl v) b) → bm D' (mpicks (pH (vpl v)) (vev v) allp 0 i) → am_Wp false 0 cdM_betterOf fnM_betterOf K 6 [some (.ref 49), some (.int (nI c)), some (.int (nI (0 + i)))] [] D' L := by
      intro m
      induction m with
      | zero =>
        intro i D' hi' hf h15 hp hb
        have k := hK D' hf
        have ei : i = 3 := by omega
        subst ei
        refine am_Wp_bl mfM_betterOf [6] 40 _ _ _ _ _ ?_
        (repeat ((conv => whnf); (first | refine zo0 ?_ | refine zo1 ?_ | refine br_z ?_ | refine br_o ?_ | refine br_zn ?_ | refine br_on ?_ | refine nz2 ?_ | refine nz6 ?_ | refine nz32 ?_ | refine And.intro (by assumption) ?_))); (conv => whnf)
        refine ⟨fun h1 => ?_, fun h1 => absurd (nI_le (a := 3) (by omega) (by omega)) h1⟩
        (repeat ((conv => whnf); (first | refine zo0 ?_ | refine zo1 ?_ | refine br_z ?_ | refine br_o ?_ | refine br_zn ?_ | refine br_on ?_ | refine nz2 ?_ | refine nz6 ?_ | refine nz32 ?_ | refine And.intro (by assumption) ?_))); (conv => whnf)
        rw [c0]
        refine ⟨fun h1 => ?_, fun h1 => ?_⟩
        · (repeat ((conv => whnf); (first | refine zo0 ?_ | refine zo1 ?_ | refine br_z ?_ | refine br_o ?_ | refine br_zn ?_ | refine br_on ?_ | refine nz2 ?_ | refine nz6 ?_ | refine nz32 ?_ | refine And.intro (by assumption) ?_))); (conv => whnf)
          rw [c1]
          refine ⟨fun h2 => ?_, fun h2 => ?_⟩
          · (repeat ((conv => whnf); (first | refine zo0 ?_ | refine zo1 ?_ | refine br_z ?_ | refine br_o ?_ | refine br_zn ?_ | refine br_on ?_ | refine nz2 ?_ | refine nz6 ?_ | refine nz32 ?_ | refine And.intro (by assumption) ?_))); (conv => whnf)
            rw [hb.2.2]
            rw [show c = 2 by omega] at k
            exact k
          · (repeat ((conv => whnf); (first | refine zo0 ?_ | refine zo1 ?_ | refine br_z ?_ | refine br_o ?_ | refine br_zn ?_ | refine br_on ?_ | refine nz2 ?_ | refine nz6 ?_ | refine nz32 ?_ | refine And.intro (by assumption) ?_))); (conv => whnf)
            rw [hb.2.1]
            rw [h2] at k
            exact k
        · (repeat ((conv => whnf); (first | refine zo0 ?_ | refine zo1 ?_ | refine br_z ?_ | refine br_o ?_ | refine br_zn ?_ | refine br_on ?_ | refine nz2 ?_ | refine nz6 ?_ | refine nz32 ?_ | refine And.intro (by assumption) ?_))); (conv => whnf)
          rw [hb.1]
          rw [h1] at k
          exact k
      | succ m ih =>
        intro i D' hi' hf h15 hp hb
        obtain ⟨P', hp1, hp2⟩ := hp
        refine am_Wp_bl mfM_betterOf [6] 40 _ _ _ _ _ ?_
        (repeat ((conv => whnf); (first | refine zo0 ?_ | refine zo1 ?_ | refine br_z ?_ | refine br_o ?_ | refine br_zn ?_ | refine br_on ?_ | refine nz2 ?_ | refine nz6 ?_ | refine nz32 ?_ | refine And.intro (by assumption) ?_))); (conv => whnf)
        refine ⟨fun h1 => absurd h1 (nI_ge (b := 3) (by omega) (by omega)), fun h1 => ?_⟩
        (repeat ((conv => whnf); (first | refine zo0 ?_ | refine zo1 ?_ | refine br_z ?_ | refine br_o ?_ | refine br_zn ?_ | refine br_on ?_ | refine nz2 ?_ | refine nz6 ?_ | refine nz32 ?_ | refine And.intro (by assumption) ?_))); (conv => whnf)
        have p2 := pm_H (0 + i) hp1
        rw [hp2] at p2
        have hE2 : em (am_up D' 49 13 (nI (0 + i))) (vev v) := em_im (im_fq hi (fq_tr hf (fq_up49 (by decide) fq_rf))) hv
        refine ⟨pH (vpl v) (0 + i), vev v, allp, 0 + i, mpicks (pH (vpl v)) (vev v) allp 0 i, rfl, by omega, pH_ok hP (by omega), hE, p2, hE2, ?_, ?_, mpicks_ok i (fun q hq => pH_ok hP (by omega)) hE (by omega), fun D2 f2 b2 => ?_⟩
        · rw [am_up_eq]; simp only [upd]; rw [if_neg (by decide), h15]; exact prx_0
        · unfold bm at hb ⊢
          simp only [am_up_eq, upd]
          exact hb
        (repeat ((conv => whnf); (first | refine zo0 ?_ | refine zo1 ?_ | refine br_z ?_ | refine br_o ?_ | refine br_zn ?_ | refine br_on ?_ | refine nz2 ?_ | refine nz6 ?_ | refine nz32 ?_ | refine And.intro (by assumption) ?_))); (conv => whnf)
        rw [nI_1]
        refine ih (i + 1) D2 (by omega) (fq_tr (fq_tr hf (fq_up49 (by decide) fq_rf)) (fq_ft f2)) ?_ ⟨_, pm_ft p2 f2, fun b => pH_H _ _ _⟩ b2
        rw [f2.2 15 (by omega) (by omega) (by omega) (by omega), am_up_eq]
        simp only [upd]
        rw [if_neg (by decide)]
        exact h15
    refine ⟨rfl, am_Wp_bl mfM_betterOf [6] 40 _ _ _ _ _ ?_⟩
    (repeat ((conv => whnf); (first | refine zo0 ?_ | refine zo1 ?_ | refine br_z ?_ | refine br_o ?_ | refine br_zn ?_ | refine br_on ?_ | refine nz2 ?_ | refine nz6 ?_ | refine nz32 ?_ | refine And.intro (by assumption) ?_))); (conv => whnf)
    refine ⟨v, hv, hi, fun D1 f1 r1 p1 n1 _ => ?_⟩
    (repeat ((conv => whnf); (first | refine zo0 ?_ | refine zo1 ?_ | refine br_z ?_ | refine br_o ?_ | refine br_zn ?_ | refine br_on ?_ | refine nz2 ?_ | refine nz6 ?_ | refine nz32 ?_ | refine And.intro (by assumption) ?_))); (conv => whnf)
    refine loop 3 0 _ (by omega) (fq_tr (fq_fa f1) (fq_up49 (by decide) (fq_up49 (by decide) (fq_up49 (by decide) fq_rf)))) ?_ ⟨vpl v, ?_, fun _ => rfl⟩ ?_
    · simp [am_up, upd, n1]
    · obtain ⟨x1, x2, x3, x4, x5, x6⟩ := p1
      refine ⟨?_, ?_, ?_, ?_, ?_, ?_⟩
      · simp [am_up, upd, x1]
      · simp [am_up, upd, x2]
      · simp [am_up, upd, x3]
      · simp [am_up, x4]
      · rw [am_up_ne (by decide), am_up_ne (by decide), am_up_ne (by decide), am_up_ne (by decide), am_up_ne (by decide), am_up_ne (by decide)]; exact x5
      · rw [am_up_ne (by decide), am_up_ne (by decide), am_up_ne (by decide)]; exact x6
    · refine ⟨?_, ?_, ?_⟩ <;> simp [am_up, upd, mpicks, pI]
  · exact absurd h id
theorem clM_betterOf (l : Launch) : ∀ (a : Nat) (ins : Instr) (b dd : Nat), csM_betterOf[a]? = some (ins, b, dd) → am_Call l yM_betterOf.cls 7 ins b dd (fnM_betterOf a) := by
  intro a ins b dd h
  match a, h with
  | 0, h => cases h; exact am_callV (T := F_11) (N := 52) (okM_starts l) wcM_starts (am_m5 (i := 221) rfl rfl) wiM_starts wsM_starts inM rfl (by decide) (by decide +kernel) (by decide) (by decide)
  | 1, h => cases h; exact am_callV (T := F_11) (N := 52) (okM_tries l) wcM_tries (am_m5 (i := 225) rfl rfl) wiM_tries wsM_tries inM rfl (by decide) (by decide +kernel) (by decide) (by decide)
  | k + 2, h => simp [csM_betterOf] at h
theorem okM_betterOf (l : Launch) : am_Ok l yM_betterOf prog_13_method_56_code 3 (some .int) 7 spM_betterOf := am_ok_of (by decide +kernel) flM_ok kiM_ok klM_ok ckM_betterOf (clM_betterOf l) wpM_betterOf
def fnM_fitOf : Nat → am_Sp := fun a => match a with
  | 0 => spM_starts
  | 1 => spM_tries
  | _ => am_no
theorem mfM_fitOf : ∀ a, am_mono (fnM_fitOf a) := fun a => match a with
  | 0 => moM_starts
  | 1 => moM_tries
  | _ + 2 => am_no_mono
def spM_fitOf : am_Sp := fun as D L K => match as with
  | [.ref 49, .int y] => ∃ (v : vs_T) (c : Nat), vok v ∧ im D v ∧ y = nI c ∧ c < 3 ∧ ∀ D', fq D D' → K (some (.int (pI (aFit v) c))) D' L
  | _ => False
theorem moM_fitOf : am_mono spM_fitOf := by
  intro as D L K K' hK h
  unfold spM_fitOf at h ⊢
  split at h
  · obtain ⟨z0, z1, z2, z3, z4, z5, hz⟩ := h
    exact ⟨z0, z1, z2, z3, z4, z5, fun D' q => hK _ _ _ (hz D' q)⟩
  · exact h
theorem wpM_fitOf : ∀ (as : List Value) (D : am_D) (L : am_L) (K : am_K), spM_fitOf as D L K → am_fit 3 as = true ∧ am_Wp false 0 cdM_fitOf fnM_fitOf K 0 (am_lo 3 as) [] D L := by
  intro as D L K h
  unfold spM_fitOf at h
  split at h
  · obtain ⟨v, c, hv, hi, rfl, hc, hK⟩ := h
    have hP := vpl_ok hv
    have hE := vev_ok hv
    have c0 : nI c = 0 ↔ c = 0 := by rw [← nI_0, nI_eq (by omega) (by omega)]
    have c1 : nI c = 1 ↔ c = 1 := by rw [← nc1, nI_eq (by omega) (by omega)]
    have loop : ∀ (m i : Nat) (D' : am_D), i + m = 8 → fq D D' → D' 49 15 = 0 → (∃ P', pm D' P' ∧ ∀ b, pR P' b = pR (vpl v) b) → bm D' (mpicks (pR (vpl v)) (vev v) allp 1 i) → am_Wp false 0 cdM_fitOf fnM_fitOf K 6 [some (.ref 49), some (.int (nI c)), some (.int (nI (1 + i)))] [] D' L := by
      intro m
      induction m with
      | zero =>
        intro i D' hi' hf h15 hp hb
        have k := hK D' hf
        have ei : i = 8 := by omega
        subst ei
        refine am_Wp_bl mfM_fitOf [6] 40 _ _ _ _ _ ?_
        (repeat ((conv => whnf); (first | refine zo0 ?_ | refine zo1 ?_ | refine br_z ?_ | refine br_o ?_ | refine br_zn ?_ | refine br_on ?_ | refine nz2 ?_ | refine nz6 ?_ | refine nz32 ?_ | refine And.intro (by assumption) ?_))); (conv => whnf)
        refine ⟨fun h1 => ?_, fun h1 => absurd (nI_le (a := 9) (by omega) (by omega)) h1⟩
        (repeat ((conv => whnf); (first | refine zo0 ?_ | refine zo1 ?_ | refine br_z ?_ | refine br_o ?_ | refine br_zn ?_ | refine br_on ?_ | refine nz2 ?_ | refine nz6 ?_ | refine nz32 ?_ | refine And.intro (by assumption) ?_))); (conv => whnf)
        rw [c0]
        refine ⟨fun h1 => ?_, fun h1 => ?_⟩
        · (repeat ((conv => whnf); (first | refine zo0 ?_ | refine zo1 ?_ | refine br_z ?_ | refine br_o ?_ | refine br_zn ?_ | refine br_on ?_ | refine nz2 ?_ | refine nz6 ?_ | refine nz32 ?_ | refine And.intro (by assumption) ?_))); (conv => whnf)
          rw [c1]
          refine ⟨fun h2 => ?_, fun h2 => ?_⟩
          · (repeat ((conv => whnf); (first | refine zo0 ?_ | refine zo1 ?_ | refine br_z ?_ | refine br_o ?_ | refine br_zn ?_ | refine br_on ?_ | refine nz2 ?_ | refine nz6 ?_ | refine nz32 ?_ | refine And.intro (by assumption) ?_))); (conv => whnf)
            rw [hb.2.2]
            rw [show c = 2 by omega] at k
            exact k
          · (repeat ((conv => whnf); (first | refine zo0 ?_ | refine zo1 ?_ | refine br_z ?_ | refine br_o ?_ | refine br_zn ?_ | refine br_on ?_ | refine nz2 ?_ | refine nz6 ?_ | refine nz32 ?_ | refine And.intro (by assumption) ?_))); (conv => whnf)
            rw [hb.2.1]
            rw [h2] at k
            exact k
        · (repeat ((conv => whnf); (first | refine zo0 ?_ | refine zo1 ?_ | refine br_z ?_ | refine br_o ?_ | refine br_zn ?_ | refine br_on ?_ | refine nz2 ?_ | refine nz6 ?_ | refine nz32 ?_ | refine And.intro (by assumption) ?_))); (conv => whnf)
          rw [hb.1]
          rw [h1] at k
          exact k
      | succ m ih =>
        intro i D' hi' hf h15 hp hb
        obtain ⟨P', hp1, hp2⟩ := hp
        refine am_Wp_bl mfM_fitOf [6] 40 _ _ _ _ _ ?_
        (repeat ((conv => whnf); (first | refine zo0 ?_ | refine zo1 ?_ | refine br_z ?_ | refine br_o ?_ | refine br_zn ?_ | refine br_on ?_ | refine nz2 ?_ | refine nz6 ?_ | refine nz32 ?_ | refine And.intro (by assumption) ?_))); (conv => whnf)
        refine ⟨fun h1 => absurd h1 (nI_ge (b := 9) (by omega) (by omega)), fun h1 => ?_⟩
        (repeat ((conv => whnf); (first | refine zo0 ?_ | refine zo1 ?_ | refine br_z ?_ | refine br_o ?_ | refine br_zn ?_ | refine br_on ?_ | refine nz2 ?_ | refine nz6 ?_ | refine nz32 ?_ | refine And.intro (by assumption) ?_))); (conv => whnf)
        have p2 := pm_R (1 + i) hp1
        rw [hp2] at p2
        have hE2 : em (am_up D' 49 14 (nI (1 + i))) (vev v) := em_im (im_fq hi (fq_tr hf (fq_up49 (by decide) fq_rf))) hv
        refine ⟨pR (vpl v) (1 + i), vev v, allp, 1 + i, mpicks (pR (vpl v)) (vev v) allp 1 i, rfl, by omega, pR_ok hP (by omega) (by omega), hE, p2, hE2, ?_, ?_, mpicks_ok i (fun q hq => pR_ok hP (by omega) (by omega)) hE (by omega), fun D2 f2 b2 => ?_⟩
        · rw [am_up_eq]; simp only [upd]; rw [if_neg (by decide), h15]; exact prx_0
        · unfold bm at hb ⊢
          simp only [am_up_eq, upd]
          exact hb
        (repeat ((conv => whnf); (first | refine zo0 ?_ | refine zo1 ?_ | refine br_z ?_ | refine br_o ?_ | refine br_zn ?_ | refine br_on ?_ | refine nz2 ?_ | refine nz6 ?_ | refine nz32 ?_ | refine And.intro (by assumption) ?_))); (conv => whnf)
        rw [nI_1]
        refine ih (i + 1) D2 (by omega) (fq_tr (fq_tr hf (fq_up49 (by decide) fq_rf)) (fq_ft f2)) ?_ ⟨_, pm_ft p2 f2, fun b => pR_R _ _ _⟩ b2
        rw [f2.2 15 (by omega) (by omega) (by omega) (by omega), am_up_eq]
        simp only [upd]
        rw [if_neg (by decide)]
        exact h15
    refine ⟨rfl, am_Wp_bl mfM_fitOf [6] 40 _ _ _ _ _ ?_⟩
    (repeat ((conv => whnf); (first | refine zo0 ?_ | refine zo1 ?_ | refine br_z ?_ | refine br_o ?_ | refine br_zn ?_ | refine br_on ?_ | refine nz2 ?_ | refine nz6 ?_ | refine nz32 ?_ | refine And.intro (by assumption) ?_))); (conv => whnf)
    refine ⟨v, hv, hi, fun D1 f1 r1 p1 n1 _ => ?_⟩
    (repeat ((conv => whnf); (first | refine zo0 ?_ | refine zo1 ?_ | refine br_z ?_ | refine br_o ?_ | refine br_zn ?_ | refine br_on ?_ | refine nz2 ?_ | refine nz6 ?_ | refine nz32 ?_ | refine And.intro (by assumption) ?_))); (conv => whnf)
    refine loop 8 0 _ (by omega) (fq_tr (fq_fa f1) (fq_up49 (by decide) (fq_up49 (by decide) (fq_up49 (by decide) fq_rf)))) ?_ ⟨vpl v, ?_, fun _ => rfl⟩ ?_
    · simp [am_up, upd, n1]
    · obtain ⟨x1, x2, x3, x4, x5, x6⟩ := p1
      refine ⟨?_, ?_, ?_, ?_, ?_, ?_⟩
      · simp [am_up, upd, x1]
      · simp [am_up, upd, x2]
      · simp [am_up, upd, x3]
      · simp [am_up, x4]
      · rw [am_up_ne (by decide), am_up_ne (by decide), am_up_ne (by decide), am_up_ne (by decide), am_up_ne (by decide), am_up_ne (by decide)]; exact x5
      · rw [am_up_ne (by decide), am_up_ne (by decide), am_up_ne (by decide)]; exact x6
    · refine ⟨?_, ?_, ?_⟩ <;> simp [am_up, upd, mpicks, pI]
  · exact absurd h id
theorem clM_fitOf (l : Launch) : ∀ (a : Nat) (ins : Instr) (b dd : Nat), csM_fitOf[a]? = some (ins, b, dd) → am_Call l yM_fitOf.cls 7 ins b dd (fnM_fitOf a) := by
  intro a ins b dd h
  match a, h with
  | 0, h => cases h; exact am_callV (T := F_11) (N := 52) (okM_starts l) wcM_starts (am_m5 (i := 221) rfl rfl) wiM_starts wsM_starts inM rfl (by decide) (by decide +kernel) (by decide) (by decide)
  | 1, h => cases h; exact am_callV (T := F_11) (N := 52) (okM_tries l) wcM_tries (am_m5 (i := 225) rfl rfl) wiM_tries wsM_tries inM rfl (by decide) (by decide +kernel) (by decide) (by decide)
  | k + 2, h => simp [csM_fitOf] at h
theorem okM_fitOf (l : Launch) : am_Ok l yM_fitOf prog_13_method_58_code 3 (some .int) 7 spM_fitOf := am_ok_of (by decide +kernel) flM_ok kiM_ok klM_ok ckM_fitOf (clM_fitOf l) wpM_fitOf
