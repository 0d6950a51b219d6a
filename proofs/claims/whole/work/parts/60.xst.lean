/-! the class holds the state -/
def vhi (t : Nat) : Nat := bif Nat.blt t 2 then 53 else 108
def it (D : am_D) (v : vs_T) : Prop := ∀ t, t < 3 → D (2 * t + 1) 1 = nI (vcap t) ∧ D (2 * t + 1) 2 = nI (vlow t) ∧ D (2 * t + 1) 3 = nI (vhi t) ∧ D (2 * t + 1) 4 = v 0 t ∧ ∀ i, i < 24 → D (2 * t + 2) i = v 1 (24 * t + i)
def ie (D : am_D) (v : vs_T) : Prop := D 7 3 = v 0 6 ∧ ∀ i, i < 8 → D 8 i = v 2 i ∧ D 9 i = v 3 i ∧ D 10 i = v 4 i
def isg (D : am_D) (v : vs_T) : Prop := D 11 2 = v 0 7 ∧ ∀ i, i < 8 → D 12 i = v 5 i ∧ D 13 i = v 6 i
def ish (D : am_D) (v : vs_T) : Prop := ∀ s, s < 4 → D (2 * s + 41) 1 = v 8 s ∧ D (2 * s + 41) 2 = v 9 s ∧ D (2 * s + 41) 3 = 1 - v 7 s ∧ ∀ i, i < 60 → D (2 * s + 42) i = v 10 (60 * s + i)
def ipl (D : am_D) (v : vs_T) : Prop := px D 14 (vpl v) ∧ D 14 7 = 0
def ib (D : am_D) (v : vs_T) : Prop := it D v ∧ ipl D v ∧ ie D v ∧ isg D v ∧ D 0 16 = v 0 8 ∧ ish D v
def dayok (D : am_D) (P E : mw_T) : Prop := yrec D P E allp 48 ∧ (D 31 0 = nI (mw_run P E allp 48 0 8) ∧ D 31 1 = nI (mw_run P E allp 48 0 9) ∧ D 31 2 = nI (mw_run P E allp 48 0 10) ∧ D 31 3 = nI (mw_run P E allp 48 0 11) ∧ D 31 4 = nI (mw_run P E allp 48 0 2)) ∧ D 27 5 = mw_lk P (mw_run P E allp 48) 12
def prs (S : Nat) : Nat → Bool := fun i => decide (S / 2 ^ i % 2 = 1)
def icd (D : am_D) (v : vs_T) : Prop := D 27 6 = 0 ∨ (D 27 6 = 1 ∧ dayok D (vpl v) (vev v))
def ich (D : am_D) (v : vs_T) : Prop := D 32 4 = 0 ∨ (D 32 4 = 1 ∧ D 32 0 = pI (aBetter v) 0 ∧ D 32 2 = pI (aBetter v) 1 ∧ D 32 3 = pI (aBetter v) 2)
def icr (D : am_D) (v : vs_T) : Prop := D 33 4 = 0 ∨ (D 33 4 = 1 ∧ D 33 0 = pI (aFit v) 0 ∧ D 33 2 = pI (aFit v) 1 ∧ D 33 3 = pI (aFit v) 2)
def ics (D : am_D) (v : vs_T) : Prop := D 34 4 = 0 ∨ (D 34 4 = 1 ∧ D 34 0 = swI (aSwap v) 0 ∧ D 34 1 = swI (aSwap v) 1 ∧ D 34 2 = swI (aSwap v) 2 ∧ D 34 3 = swI (aSwap v) 3)
def icp (D : am_D) (v : vs_T) : Prop := D 35 3 = 0 ∨ (D 35 3 = 1 ∧ D 35 0 = spN (aSpare v) ∧ D 35 1 = spI (aSpare v) 0 ∧ D 35 2 = spI (aSpare v) 1)
def icc (D : am_D) (v : vs_T) : Prop := D 36 2 = 0 ∨ (D 36 2 = 1 ∧ ∀ S, S < 2 ^ vn v 0 6 → D 37 S = mw_lk (vpl v) (mw_run (vpl v) (vev v) (prs S) 48) 12)
def ic (D : am_D) (v : vs_T) : Prop := icd D v ∧ ich D v ∧ icr D v ∧ ics D v ∧ icp D v ∧ icc D v
def iw (D : am_D) : Prop := ∃ w g, wx D w g
def ix (D : am_D) (v : vs_T) : Prop := ib D v ∧ ic D v ∧ iw D
def fc (D D' : am_D) : Prop := ∀ k, 49 ≤ k → D' k = D k
theorem fc_rf {D : am_D} : fc D D := fun _ _ => rfl
theorem fc_tr {D D' D'' : am_D} (h1 : fc D D') (h2 : fc D' D'') : fc D D'' := fun k hk => (h2 k hk).trans (h1 k hk)
theorem fc_up {D D' : am_D} {k j : Nat} {x : Int32} (hk : k < 49) (h : fc D D') : fc D (am_up D' k j x) := fun q hq => by rw [am_up_ne (by omega)]; exact h q hq
theorem fc_fr {D D' : am_D} {lo hi : Nat} (hh : hi < 49) (h : fr lo hi D D') : fc D D' := fun k hk => h k (by omega)
/-- cells that stay -/
theorem it_fr {D D' : am_D} {v : vs_T} (h : it D v) (f : ∀ k, 1 ≤ k → k ≤ 6 → D' k = D k) : it D' v := fun t ht => by
  rw [f (2 * t + 1) (by omega) (by omega), f (2 * t + 2) (by omega) (by omega)]
  exact h t ht
theorem ish_fr {D D' : am_D} {v : vs_T} (h : ish D v) (f : ∀ k, 41 ≤ k → k ≤ 48 → D' k = D k) : ish D' v := fun t ht => by
  rw [f (2 * t + 41) (by omega) (by omega), f (2 * t + 42) (by omega) (by omega)]
  exact h t ht
theorem ie_fr {D D' : am_D} {v : vs_T} (h : ie D v) (f : ∀ k, 7 ≤ k → k ≤ 10 → D' k = D k) : ie D' v := by
  unfold ie at h ⊢
  rw [f 7 (by omega) (by omega), f 8 (by omega) (by omega), f 9 (by omega) (by omega), f 10 (by omega) (by omega)]
  exact h
theorem isg_fr {D D' : am_D} {v : vs_T} (h : isg D v) (f : ∀ k, 11 ≤ k → k ≤ 13 → D' k = D k) : isg D' v := by
  unfold isg at h ⊢
  rw [f 11 (by omega) (by omega), f 12 (by omega) (by omega), f 13 (by omega) (by omega)]
  exact h
theorem ipl_fr {D D' : am_D} {v : vs_T} (h : ipl D v) (f : ∀ k, 14 ≤ k → k ≤ 17 → D' k = D k) : ipl D' v := by
  unfold ipl at h ⊢
  rw [f 14 (by omega) (by omega)]
  exact ⟨px_fr h.1 (f _ (by omega) (by omega)) (f _ (by omega) (by omega)) (f _ (by omega) (by omega)) (f _ (by omega) (by omega)), h.2⟩
theorem ib_fr {D D' : am_D} {v : vs_T} (h : ib D v) (f : ∀ k, k < 18 ∨ (41 ≤ k ∧ k ≤ 48) → D' k = D k) : ib D' v := by
  obtain ⟨h1, h2, h3, h4, h5, h6⟩ := h
  exact ⟨it_fr h1 (fun k _ _ => f k (by omega)), ipl_fr h2 (fun k _ _ => f k (by omega)), ie_fr h3 (fun k _ _ => f k (by omega)), isg_fr h4 (fun k _ _ => f k (by omega)), by rw [f 0 (by omega)]; exact h5, ish_fr h6 (fun k _ _ => f k (by omega))⟩
theorem yrec_fr {D D' : am_D} {P E : mw_T} {pr : Nat → Bool} {n : Nat} (h : yrec D P E pr n) (f : ∀ k, 27 ≤ k → k ≤ 31 → D' k = D k) : yrec D' P E pr n := by
  unfold yrec at h ⊢
  rw [f 28 (by omega) (by omega), f 29 (by omega) (by omega), f 30 (by omega) (by omega), f 27 (by omega) (by omega)]
  exact h
theorem dayok_fr {D D' : am_D} {P E : mw_T} (h : dayok D P E) (f : ∀ k, 27 ≤ k → k ≤ 31 → D' k = D k) : dayok D' P E := by
  unfold dayok at h ⊢
  rw [f 31 (by omega) (by omega), f 27 (by omega) (by omega)]
  exact ⟨yrec_fr h.1 f, h.2⟩
theorem icd_fr {D D' : am_D} {v : vs_T} (h : icd D v) (f : ∀ k, 27 ≤ k → k ≤ 31 → D' k = D k) : icd D' v := by
  unfold icd at h ⊢
  rw [f 27 (by omega) (by omega)]
  rcases h with h | h
  · exact Or.inl h
  · exact Or.inr ⟨h.1, dayok_fr h.2 f⟩
theorem ich_fr {D D' : am_D} {v : vs_T} (h : ich D v) (f : D' 32 = D 32) : ich D' v := by
  unfold ich at h ⊢
  rw [f]
  exact h
theorem icr_fr {D D' : am_D} {v : vs_T} (h : icr D v) (f : D' 33 = D 33) : icr D' v := by
  unfold icr at h ⊢
  rw [f]
  exact h
theorem ics_fr {D D' : am_D} {v : vs_T} (h : ics D v) (f : D' 34 = D 34) : ics D' v := by
  unfold ics at h ⊢
  rw [f]
  exact h
theorem icp_fr {D D' : am_D} {v : vs_T} (h : icp D v) (f : D' 35 = D 35) : icp D' v := by
  unfold icp at h ⊢
  rw [f]
  exact h
theorem icc_fr {D D' : am_D} {v : vs_T} (h : icc D v) (f : D' 36 = D 36) (f2 : D' 37 = D 37) : icc D' v := by
  unfold icc at h ⊢
  rw [f, f2]
  exact h
theorem ic_fr {D D' : am_D} {v : vs_T} (h : ic D v) (f : ∀ k, 27 ≤ k → k ≤ 37 → D' k = D k) : ic D' v := by
  obtain ⟨h1, h2, h3, h4, h5, h6⟩ := h
  exact ⟨icd_fr h1 (fun k a b => f k a (by omega)), ich_fr h2 (f _ (by omega) (by omega)), icr_fr h3 (f _ (by omega) (by omega)), ics_fr h4 (f _ (by omega) (by omega)), icp_fr h5 (f _ (by omega) (by omega)), icc_fr h6 (f _ (by omega) (by omega)) (f _ (by omega) (by omega))⟩
theorem iw_fr {D D' : am_D} (h : iw D) (f : ∀ k, 22 ≤ k → k ≤ 25 → D' k = D k) : iw D' := by
  obtain ⟨w, g, h⟩ := h
  exact ⟨w, g, wx_fr h (f _ (by omega) (by omega)) (f _ (by omega) (by omega)) (f _ (by omega) (by omega)) (f _ (by omega) (by omega))⟩
/-- nothing is known -/
def ic0 (D : am_D) : Prop := D 27 6 = 0 ∧ D 32 4 = 0 ∧ D 33 4 = 0 ∧ D 34 4 = 0 ∧ D 35 3 = 0 ∧ D 36 2 = 0
theorem ic_0 {D : am_D} {v : vs_T} (h : ic0 D) : ic D v := ⟨Or.inl h.1, Or.inl h.2.1, Or.inl h.2.2.1, Or.inl h.2.2.2.1, Or.inl h.2.2.2.2.1, Or.inl h.2.2.2.2.2⟩
/-- a walk and a trial leave all that -/
theorem ix_try {D D' : am_D} {v : vs_T} (h : ix D v) (f : ∀ k, k < 18 ∨ (27 ≤ k ∧ k ≠ 39) → D' k = D k) (w : iw D') : ix D' v := ⟨ib_fr h.1 (fun k hk => f k (by omega)), ic_fr h.2.1 (fun k _ _ => f k (by omega)), w⟩
theorem ex_ie {D : am_D} {v : vs_T} (h : ie D v) (hv : vok v) : ex D (vev v) := by
  obtain ⟨n, h1, h2, h3⟩ := hv.2.2.2.2.2.1
  have e : vev v 0 0 = n := vn_nI h2 (by omega)
  refine ⟨by rw [e, h.1, h2], fun i hi => ?_⟩
  rw [e] at hi
  obtain ⟨⟨a, a1, a2⟩, ⟨b, b1, b2⟩, ⟨c, c1, c2⟩⟩ := h3 i hi
  have q := h.2 i (by omega)
  refine ⟨?_, ?_, ?_⟩
  · rw [q.1, a2]; show nI a = nI (vn v 2 i); rw [vn_nI a2 (by omega)]
  · rw [q.2.1, b2]; show nI b = nI (vn v 3 i); rw [vn_nI b2 (by omega)]
  · rw [q.2.2, c2]; show nI c = nI (vn v 4 i); rw [vn_nI c2 (by omega)]
/-! only what was told of the round, the doors and the events counts -/
def pe (P P' : mw_T) : Prop := (∀ j, j ≤ 3 → P' 0 j = P 0 j) ∧ P' 1 = P 1 ∧ P' 2 = P 2 ∧ P' 3 = P 3
def ee (E E' : mw_T) : Prop := E' 0 0 = E 0 0 ∧ ∀ i, i < E 0 0 → E' 1 i = E 1 i ∧ E' 2 i = E 2 i ∧ E' 3 i = E 3 i
theorem ee_rf (E : mw_T) : ee E E := ⟨rfl, fun _ _ => ⟨rfl, rfl, rfl⟩⟩
theorem pe_rf (P : mw_T) : pe P P := ⟨fun _ _ => rfl, rfl, rfl, rfl⟩
theorem mw_bef_cg {E E' : mw_T} {pr pr' : Nat → Bool} (h : ee E E') (hp : ∀ i, i < E 0 0 → pr' i = pr i) (t : Nat) (w : mw_T) : ∀ k, k ≤ E 0 0 → mw_bef E' pr' t w k = mw_bef E pr t w k
  | 0, _ => rfl
  | k + 1, hk => by
    have ih := mw_bef_cg h hp t w k (by omega)
    have e := h.2 k (by omega)
    have p := hp k (by omega)
    simp only [mw_bef, mw_ev, ih, e.1, e.2.1, e.2.2, p]
theorem mw_w0_cg {P P' : mw_T} (hP : pe P P') : mw_w0 P' = mw_w0 P := by
  unfold mw_w0
  rw [hP.2.2.1, hP.1 3 (by omega)]
theorem mw_serve_cg {P P' : mw_T} (hP : pe P P') (g : Int32) (w : mw_T) (d : Nat) : mw_serve P' g w d = mw_serve P g w d := by
  unfold mw_serve mw_lift mw_lay
  rw [hP.2.1, hP.1 2 (by omega)]
theorem mw_act_cg {P P' : mw_T} (hP : pe P P') (g : Int32) (w : mw_T) : mw_act P' g w = mw_act P g w := by
  unfold mw_act
  rw [mw_serve_cg hP, hP.1 0 (by omega), hP.1 2 (by omega), hP.2.1, hP.2.2.2]
theorem mw_drive_cg {P P' : mw_T} (hP : pe P P') (t : Nat) (w : mw_T) : mw_drive P' t w = mw_drive P t w := by
  unfold mw_drive
  rw [hP.1 1 (by omega)]
theorem mw_run_cg {P P' E E' : mw_T} {pr pr' : Nat → Bool} (hP : pe P P') (h : ee E E') (hp : ∀ i, i < E 0 0 → pr' i = pr i) : ∀ t, mw_run P' E' pr' t = mw_run P E pr t
  | 0 => mw_w0_cg hP
  | t + 1 => by
    have ih := mw_run_cg hP h hp t
    have b := mw_bef_cg h hp t (mw_run P E pr t) (E 0 0) (Nat.le_refl _)
    show mw_min P' E' pr' t (mw_run P' E' pr' t) = mw_min P E pr t (mw_run P E pr t)
    unfold mw_min
    rw [ih, h.1, b, mw_drive_cg hP, mw_act_cg hP]
theorem mw_ns_cg {P P' w : mw_T} (h : P' 1 = P 1) : ∀ k, mw_ns P' w k = mw_ns P w k
  | 0 => rfl
  | k + 1 => by simp only [mw_ns, mw_ns_cg h k, h]
theorem mw_lk_cg {P P' w : mw_T} (h : P' 1 = P 1) : ∀ k, mw_lk P' w k = mw_lk P w k
  | 0 => rfl
  | k + 1 => by simp only [mw_lk, mw_lk_cg h k, h]
theorem mw_done_cg {P P' E E' : mw_T} {pr : Nat → Bool} (hP : pe P P') (h : ee E E') (d : Nat) : ∀ t, mw_done P' E' pr d t = mw_done P E pr d t
  | 0 => rfl
  | t + 1 => by simp only [mw_done, mw_done_cg hP h d t, mw_run_cg hP h (fun _ _ => rfl), hP.2.1]
theorem mw_over_cg {P P' E E' : mw_T} {pr : Nat → Bool} (hP : pe P P') (h : ee E E') : ∀ t, mw_over P' E' pr t = mw_over P E pr t
  | 0 => rfl
  | t + 1 => by simp only [mw_over, mw_over_cg hP h t, mw_run_cg hP h (fun _ _ => rfl)]
theorem mN_cg {P P' E E' : mw_T} {pr : Nat → Bool} (hP : pe P P') (h : ee E E') : mN P' E' pr = mN P E pr := by
  unfold mN
  rw [mw_run_cg hP h (fun _ _ => rfl), mw_ns_cg hP.2.1]
theorem mW_cg {P P' E E' : mw_T} {pr : Nat → Bool} (hP : pe P P') (h : ee E E') : mW P' E' pr = mW P E pr := by
  unfold mW
  rw [mw_run_cg hP h (fun _ _ => rfl)]
theorem mpicks_cg {P P' : Nat → mw_T} {E E' : mw_T} {pr : Nat → Bool} {lo : Nat} (hP : ∀ j, pe (P j) (P' j)) (h : ee E E') : ∀ k, mpicks P' E' pr lo k = mpicks P E pr lo k
  | 0 => rfl
  | k + 1 => by simp only [mpicks, mpicks_cg hP h k, mN_cg (hP _) h, mW_cg (hP _) h]
theorem pe_H {P P' : mw_T} (hP : pe P P') (j : Nat) : pe (pH P j) (pH P' j) := by
  obtain ⟨h0, h1, h2, h3⟩ := hP
  refine ⟨fun i hi => ?_, h1, h2, h3⟩
  unfold pH up2
  by_cases e : i = 1
  · simp [e]
  · simp [e, h0 i hi]
theorem pe_R {P P' : mw_T} (hP : pe P P') (j : Nat) : pe (pR P j) (pR P' j) := by
  obtain ⟨h0, h1, h2, h3⟩ := hP
  refine ⟨fun i hi => ?_, h1, h2, h3⟩
  unfold pR up2
  by_cases e : i = 2
  · simp [e]
  · simp [e, h0 i hi]
theorem pe_S {P P' : mw_T} (hP : pe P P') (a b : Nat) : pe (pS P a b) (pS P' a b) := by
  obtain ⟨h0, h1, h2, h3⟩ := hP
  refine ⟨h0, h1, h2, ?_⟩
  unfold pS up2
  simp only [if_true, h3]
theorem mswI_cg {P P' E E' : mw_T} {pr : Nat → Bool} (hP : pe P P') (h : ee E E') (a : Nat) (o : Option (Nat × Nat × Nat)) : ∀ k, mswI P' E' pr a o k = mswI P E pr a o k
  | 0 => rfl
  | k + 1 => by simp only [mswI, mswI_cg hP h a o k, mN_cg (pe_S hP _ _) h, mW_cg (pe_S hP _ _) h]
theorem msw_cg {P P' E E' : mw_T} {pr : Nat → Bool} (hP : pe P P') (h : ee E E') (n : Nat) : ∀ a, msw P' E' pr n a = msw P E pr n a
  | 0 => rfl
  | a + 1 => by simp only [msw, msw_cg hP h n a, mswI_cg hP h]
/-- two states with the same round, doors and events -/
def vsame (v v' : vs_T) : Prop := (∀ i, i ≤ 6 → v' 0 i = v 0 i) ∧ ∀ c, 1 ≤ c → c ≤ 4 → v' c = v c
theorem vn_cg {v v' : vs_T} {c i : Nat} (h : v' c i = v c i) : vn v' c i = vn v c i := by unfold vn; rw [h]
theorem vfl_cg {v v' : vs_T} (h : v' 1 = v 1) (t : Nat) : ∀ n k, vfl v' t k n = vfl v t k n
  | 0, _ => rfl
  | n + 1, k => by
    simp only [vfl]
    rw [vfl_cg h t n (k + 1), vn_cg (show v' 1 (24 * t + k) = v 1 (24 * t + k) by rw [h])]
theorem vlen_cg {v v' : vs_T} {t : Nat} (h0 : v' 0 t = v 0 t) (h : v' 1 = v 1) : vlen v' t = vlen v t := by
  unfold vlen vflt
  rw [vn_cg h0, vfl_cg h]
theorem vmean_cg {v v' : vs_T} {t : Nat} (h0 : v' 0 t = v 0 t) (h : v' 1 = v 1) : vmean v' t = vmean v t := by
  funext i
  unfold vmean
  rw [vlen_cg h0 h, vn_cg (show v' 1 (24 * t + i) = v 1 (24 * t + i) by rw [h])]
theorem vpl_pe {v v' : vs_T} (h : vsame v v') : pe (vpl v) (vpl v') := by
  have h1 := h.2 1 (by omega) (by omega)
  refine ⟨fun j hj => ?_, vmean_cg (h.1 0 (by omega)) h1, vmean_cg (h.1 1 (by omega)) h1, vmean_cg (h.1 2 (by omega)) h1⟩
  show (if j = 0 then vlen v' 2 else vn v' 0 (j + 2)) = (if j = 0 then vlen v 2 else vn v 0 (j + 2))
  rw [vlen_cg (h.1 2 (by omega)) h1, vn_cg (h.1 (j + 2) (by omega))]
theorem vev_ee {v v' : vs_T} (h : vsame v v') : ee (vev v) (vev v') := by
  refine ⟨vn_cg (h.1 6 (by omega)), fun i _ => ⟨?_, ?_, ?_⟩⟩
  · exact vn_cg (show v' 2 i = v 2 i by rw [h.2 2 (by omega) (by omega)])
  · exact vn_cg (show v' 3 i = v 3 i by rw [h.2 3 (by omega) (by omega)])
  · exact vn_cg (show v' 4 i = v 4 i by rw [h.2 4 (by omega) (by omega)])
theorem mG_cg {v v' : vs_T} (h : vsame v v') (pr : Nat → Bool) : mG v' pr = mG v pr := by
  unfold mG
  rw [mw_run_cg (vpl_pe h) (vev_ee h) (fun _ _ => rfl), mw_lk_cg (vpl_pe h).2.1]
theorem sp1_cg {v v' : vs_T} (h : vsame v v') : ∀ m k, sp1 v' k m = sp1 v k m
  | 0, _ => rfl
  | m + 1, k => by simp only [sp1, sp1_cg h m, mG_cg h]
theorem spb_cg {v v' : vs_T} (h : vsame v v') (a : Nat) : ∀ m k, spb v' a k m = spb v a k m
  | 0, _ => rfl
  | m + 1, k => by simp only [spb, spb_cg h a m, mG_cg h]
theorem sp2_cg {v v' : vs_T} (h : vsame v v') (n : Nat) : ∀ m a, sp2 v' n a m = sp2 v n a m
  | 0, _ => rfl
  | m + 1, a => by simp only [sp2, sp2_cg h n m, spb_cg h]
theorem aSpare_cg {v v' : vs_T} (h : vsame v v') : aSpare v' = aSpare v := by
  unfold aSpare
  rw [mG_cg h, vn_cg (h.1 6 (by omega)), sp1_cg h, sp2_cg h]
theorem aBetter_cg {v v' : vs_T} (h : vsame v v') : aBetter v' = aBetter v := mpicks_cg (fun j => pe_H (vpl_pe h) j) (vev_ee h) _
theorem aFit_cg {v v' : vs_T} (h : vsame v v') : aFit v' = aFit v := mpicks_cg (fun j => pe_R (vpl_pe h) j) (vev_ee h) _
theorem aSwap_cg {v v' : vs_T} (h : vsame v v') : aSwap v' = aSwap v := by
  unfold aSwap
  rw [(vpl_pe h).1 0 (by omega), msw_cg (vpl_pe h) (vev_ee h)]
theorem dayok_cg {D : am_D} {P P' E E' : mw_T} (hP : pe P P') (h : ee E E') (hd : dayok D P E) : dayok D P' E' := by
  unfold dayok yrec at hd ⊢
  simp only [mw_run_cg hP h (fun _ _ => rfl), mw_done_cg hP h, mw_over_cg hP h, mw_lk_cg hP.2.1]
  exact hd
theorem ic_cg {D : am_D} {v v' : vs_T} (h : vsame v v') (hc : ic D v) : ic D v' := by
  obtain ⟨h1, h2, h3, h4, h5, h6⟩ := hc
  refine ⟨?_, ?_, ?_, ?_, ?_, ?_⟩
  · rcases h1 with q | q
    · exact Or.inl q
    · exact Or.inr ⟨q.1, dayok_cg (vpl_pe h) (vev_ee h) q.2⟩
  · unfold ich at h2 ⊢; rw [aBetter_cg h]; exact h2
  · unfold icr at h3 ⊢; rw [aFit_cg h]; exact h3
  · unfold ics at h4 ⊢; rw [aSwap_cg h]; exact h4
  · unfold icp at h5 ⊢; rw [aSpare_cg h]; exact h5
  · rcases h6 with q | q
    · exact Or.inl q
    · refine Or.inr ⟨q.1, fun S hS => ?_⟩
      rw [vn_cg (h.1 6 (by omega))] at hS
      rw [q.2 S hS, mw_run_cg (vpl_pe h) (vev_ee h) (fun _ _ => rfl), mw_lk_cg (vpl_pe h).2.1]
theorem px_pe {D : am_D} {kp : Nat} {P P' : mw_T} (h : pe P P') (hp : px D kp P) : px D kp P' := by
  unfold px at hp ⊢
  rw [h.1 0 (by omega), h.1 1 (by omega), h.1 2 (by omega), h.1 3 (by omega), h.2.1, h.2.2.1, h.2.2.2]
  exact hp
