/-! the answers -/
def allp : Nat → Bool := fun _ => true
theorem prx_0 : prx 0 allp := by
  have : ∀ i, i < 8 → allp i = decide (((0 : Int32) >>> (nI i &&& 31)) &&& 1 = 0) := by decide +kernel
  exact this
def va (v : vs_T) (t : Nat) : mw_T := mw_run (vpl v) (vev v) allp t
def atIx (c : Nat) : Nat := if c = 0 then 0 else if c = 1 then 1 else if c = 2 then 3 else if c = 3 then 4 else 7
def suIx (c : Nat) : Nat := if c = 0 then 8 else if c = 1 then 9 else if c = 2 then 10 else if c = 3 then 11 else 2
def aDone (v : vs_T) (d : Nat) : Int32 := mw_done (vpl v) (vev v) allp d 48
def aOver (v : vs_T) : Int32 := mw_over (vpl v) (vev v) allp 48
theorem sw_in {x : Nat} {i : Nat} (hx : x < 100) (h : (nI x).toInt = (0 : Int) + i) : i = x := by
  rw [nI_toInt (by omega)] at h
  omega
theorem sw_no {x n : Nat} (hx : x < n) (hn : n < 100) (h : (nI x).toInt < 0 ∨ ((n - 1 : Nat) : Int) < (nI x).toInt) : False := by
  rw [nI_toInt (by omega)] at h
  omega
def fnM_runs : Nat → am_Sp := fun a => match a with
  | 0 => spM_runsBy
  | _ => am_no
theorem mfM_runs : ∀ a, am_mono (fnM_runs a) := fun a => match a with
  | 0 => moM_runsBy
  | _ + 1 => am_no_mono
def spM_runs : am_Sp := am_ini cdM_runs fnM_runs 7 1
theorem moM_runs : am_mono spM_runs := am_ini_mono mfM_runs
theorem wpM_runs : ∀ (as : List Value) (D : am_D) (L : am_L) (K : am_K), spM_runs as D L K → am_fit 1 as = true ∧ am_Wp false 0 cdM_runs fnM_runs K 0 (am_lo 1 as) [] D L := am_ini_Wp mfM_runs
theorem clM_runs (l : Launch) : ∀ (a : Nat) (ins : Instr) (b dd : Nat), csM_runs[a]? = some (ins, b, dd) → am_Call l yM_runs.cls 5 ins b dd (fnM_runs a) := by
  intro a ins b dd h
  match a, h with
  | 0, h => cases h; exact am_callV (T := F_11) (N := 52) (okM_runsBy l) wcM_runsBy (am_m5 (i := 124) rfl rfl) wiM_runsBy wsM_runsBy inM rfl (by decide) (by decide +kernel) (by decide) (by decide)
  | k + 1, h => simp [csM_runs] at h
theorem okM_runs (l : Launch) : am_Ok l yM_runs prog_13_method_38_code 1 none 5 spM_runs := am_ok_of (by decide +kernel) flM_ok kiM_ok klM_ok ckM_runs (clM_runs l) wpM_runs
def fnM_runsTold : Nat → am_Sp := fun a => match a with
  | 0 => spM_asTold
  | 1 => spM_runs
  | _ => am_no
theorem mfM_runsTold : ∀ a, am_mono (fnM_runsTold a) := fun a => match a with
  | 0 => moM_asTold
  | 1 => moM_runs
  | _ + 2 => am_no_mono
def spM_runsTold : am_Sp := fun as D L K => match as with
  | [.ref 49] => ∃ v : vs_T, vok v ∧ im D v ∧ ∀ (D' : am_D) (g : Int32), fq D D' → pm D' (vpl v) → wm D' (va v 48) g → mrec D' (vpl v) (vev v) allp 48 → K none D' L
  | _ => False
theorem moM_runsTold : am_mono spM_runsTold := by
  intro as D L K K' hK h
  unfold spM_runsTold at h ⊢
  split at h
  · obtain ⟨v, h1, h2, h3⟩ := h
    exact ⟨v, h1, h2, fun D' g q1 q2 q3 q4 => hK _ _ _ (h3 D' g q1 q2 q3 q4)⟩
  · exact h
theorem wpM_runsTold : ∀ (as : List Value) (D : am_D) (L : am_L) (K : am_K), spM_runsTold as D L K → am_fit 1 as = true ∧ am_Wp false 0 cdM_runsTold fnM_runsTold K 0 (am_lo 1 as) [] D L := by
  intro as D L K h
  unfold spM_runsTold at h
  split at h
  · obtain ⟨v, hv, hi, hK⟩ := h
    refine ⟨rfl, am_Wp_bl mfM_runsTold [] 20 _ _ _ _ _ ?_⟩
    (repeat ((conv => whnf); (first | refine zo0 ?_ | refine zo1 ?_ | refine br_z ?_ | refine br_o ?_ | refine br_zn ?_ | refine br_on ?_ | refine nz2 ?_ | refine nz6 ?_ | refine nz32 ?_ | refine And.intro (by assumption) ?_))); (conv => whnf)
    refine ⟨v, hv, hi, fun D1 f1 r1 p1 n1 _ => ?_⟩
    (repeat ((conv => whnf); (first | refine zo0 ?_ | refine zo1 ?_ | refine br_z ?_ | refine br_o ?_ | refine br_zn ?_ | refine br_on ?_ | refine nz2 ?_ | refine nz6 ?_ | refine nz32 ?_ | refine And.intro (by assumption) ?_))); (conv => whnf)
    refine ⟨vpl v, vev v, allp, 47, by decide +kernel, by decide, vpl_ok hv, vev_ok hv, p1, em_im (im_fq hi (fq_fa f1)) hv, by rw [n1]; exact prx_0, fun D2 g f2 w2 y2 => ?_⟩
    (repeat ((conv => whnf); (first | refine zo0 ?_ | refine zo1 ?_ | refine br_z ?_ | refine br_o ?_ | refine br_zn ?_ | refine br_on ?_ | refine nz2 ?_ | refine nz6 ?_ | refine nz32 ?_ | refine And.intro (by assumption) ?_))); (conv => whnf)
    exact hK D2 g (fq_tr (fq_fa f1) (fq_fg f2)) (pm_fg p1 f2) w2 y2
  · exact absurd h id
theorem clM_runsTold (l : Launch) : ∀ (a : Nat) (ins : Instr) (b dd : Nat), csM_runsTold[a]? = some (ins, b, dd) → am_Call l yM_runsTold.cls 6 ins b dd (fnM_runsTold a) := by
  intro a ins b dd h
  match a, h with
  | 0, h => cases h; exact am_callV (T := F_11) (N := 52) (okM_asTold l) wcM_asTold (am_m5 (i := 116) rfl rfl) wiM_asTold wsM_asTold inM rfl (by decide) (by decide +kernel) (by decide) (by decide)
  | 1, h => cases h; exact am_callV (T := F_11) (N := 52) (okM_runs l) wcM_runs (am_m5 (i := 120) rfl rfl) wiM_runs wsM_runs inM rfl (by decide) (by decide +kernel) (by decide) (by decide)
  | k + 2, h => simp [csM_runsTold] at h
theorem okM_runsTold (l : Launch) : am_Ok l yM_runsTold prog_13_method_39_code 1 none 6 spM_runsTold := am_ok_of (by decide +kernel) flM_ok kiM_ok klM_ok ckM_runsTold (clM_runsTold l) wpM_runsTold
def fnM_atOf : Nat → am_Sp := fun a => match a with
  | 0 => spM_runsTold
  | _ => am_no
theorem mfM_atOf : ∀ a, am_mono (fnM_atOf a) := fun a => match a with
  | 0 => moM_runsTold
  | _ + 1 => am_no_mono
def spM_atOf : am_Sp := fun as D L K => match as with
  | [.ref 49, .int x, .int y] => ∃ (v : vs_T) (t c : Nat), vok v ∧ im D v ∧ x = nI t ∧ t < 48 ∧ y = nI c ∧ c < 5 ∧ ∀ D', fq D D' → K (some (.int (nI (va v (t + 1) 0 (atIx c))))) D' L
  | _ => False
theorem moM_atOf : am_mono spM_atOf := by
  intro as D L K K' hK h
  unfold spM_atOf at h ⊢
  split at h
  · obtain ⟨z0, z1, z2, z3, z4, z5, z6, z7, z8, hz⟩ := h
    exact ⟨z0, z1, z2, z3, z4, z5, z6, z7, z8, fun D' q => hK _ _ _ (hz D' q)⟩
  · exact h
theorem wpM_atOf : ∀ (as : List Value) (D : am_D) (L : am_L) (K : am_K), spM_atOf as D L K → am_fit 3 as = true ∧ am_Wp false 0 cdM_atOf fnM_atOf K 0 (am_lo 3 as) [] D L := by
  intro as D L K h
  unfold spM_atOf at h
  split at h
  · obtain ⟨v, t, c, hv, hi, rfl, ht, rfl, hc, hK⟩ := h
    have ec : (nI t).toNatClampNeg = t := nI_clamp (by omega)
    have hin : vp_in (nI t) 48 := vp_in_nI (by omega) (by decide)
    refine ⟨rfl, am_Wp_bl mfM_atOf [] 40 _ _ _ _ _ ?_⟩
    (repeat ((conv => whnf); (first | refine zo0 ?_ | refine zo1 ?_ | refine br_z ?_ | refine br_o ?_ | refine br_zn ?_ | refine br_on ?_ | refine nz2 ?_ | refine nz6 ?_ | refine nz32 ?_ | refine And.intro (by assumption) ?_))); (conv => whnf)
    refine ⟨v, hv, hi, fun D1 g f1 p1 w1 y1 => ?_⟩
    have k := hK D1 f1
    have y := y1.1 t ht
    match c, hc, k with
    | 0, _, k =>
      (repeat ((conv => whnf); (first | refine zo0 ?_ | refine zo1 ?_ | refine br_z ?_ | refine br_o ?_ | refine br_zn ?_ | refine br_on ?_ | refine nz2 ?_ | refine nz6 ?_ | refine nz32 ?_ | refine And.intro (by assumption) ?_))); (conv => whnf)
      refine ⟨fun i o h1 h2 => ?_, fun h1 => (sw_no (n := 4) (by decide) (by decide) h1).elim⟩
      have := sw_in (by decide) h2
      subst this
      cases h1
      (repeat ((conv => whnf); (first | refine zo0 ?_ | refine zo1 ?_ | refine br_z ?_ | refine br_o ?_ | refine br_zn ?_ | refine br_on ?_ | refine nz2 ?_ | refine nz6 ?_ | refine nz32 ?_ | refine And.intro (by assumption) ?_))); (conv => whnf)
      rw [ec, y.1]
      exact k
    | 1, _, k =>
      (repeat ((conv => whnf); (first | refine zo0 ?_ | refine zo1 ?_ | refine br_z ?_ | refine br_o ?_ | refine br_zn ?_ | refine br_on ?_ | refine nz2 ?_ | refine nz6 ?_ | refine nz32 ?_ | refine And.intro (by assumption) ?_))); (conv => whnf)
      refine ⟨fun i o h1 h2 => ?_, fun h1 => (sw_no (n := 4) (by decide) (by decide) h1).elim⟩
      have := sw_in (by decide) h2
      subst this
      cases h1
      (repeat ((conv => whnf); (first | refine zo0 ?_ | refine zo1 ?_ | refine br_z ?_ | refine br_o ?_ | refine br_zn ?_ | refine br_on ?_ | refine nz2 ?_ | refine nz6 ?_ | refine nz32 ?_ | refine And.intro (by assumption) ?_))); (conv => whnf)
      rw [ec, y.2.1]
      exact k
    | 2, _, k =>
      (repeat ((conv => whnf); (first | refine zo0 ?_ | refine zo1 ?_ | refine br_z ?_ | refine br_o ?_ | refine br_zn ?_ | refine br_on ?_ | refine nz2 ?_ | refine nz6 ?_ | refine nz32 ?_ | refine And.intro (by assumption) ?_))); (conv => whnf)
      refine ⟨fun i o h1 h2 => ?_, fun h1 => (sw_no (n := 4) (by decide) (by decide) h1).elim⟩
      have := sw_in (by decide) h2
      subst this
      cases h1
      (repeat ((conv => whnf); (first | refine zo0 ?_ | refine zo1 ?_ | refine br_z ?_ | refine br_o ?_ | refine br_zn ?_ | refine br_on ?_ | refine nz2 ?_ | refine nz6 ?_ | refine nz32 ?_ | refine And.intro (by assumption) ?_))); (conv => whnf)
      rw [ec, y.2.2.1]
      exact k
    | 3, _, k =>
      (repeat ((conv => whnf); (first | refine zo0 ?_ | refine zo1 ?_ | refine br_z ?_ | refine br_o ?_ | refine br_zn ?_ | refine br_on ?_ | refine nz2 ?_ | refine nz6 ?_ | refine nz32 ?_ | refine And.intro (by assumption) ?_))); (conv => whnf)
      refine ⟨fun i o h1 h2 => ?_, fun h1 => (sw_no (n := 4) (by decide) (by decide) h1).elim⟩
      have := sw_in (by decide) h2
      subst this
      cases h1
      (repeat ((conv => whnf); (first | refine zo0 ?_ | refine zo1 ?_ | refine br_z ?_ | refine br_o ?_ | refine br_zn ?_ | refine br_on ?_ | refine nz2 ?_ | refine nz6 ?_ | refine nz32 ?_ | refine And.intro (by assumption) ?_))); (conv => whnf)
      rw [ec, y.2.2.2.1]
      exact k
    | 4, _, k =>
      (repeat ((conv => whnf); (first | refine zo0 ?_ | refine zo1 ?_ | refine br_z ?_ | refine br_o ?_ | refine br_zn ?_ | refine br_on ?_ | refine nz2 ?_ | refine nz6 ?_ | refine nz32 ?_ | refine And.intro (by assumption) ?_))); (conv => whnf)
      refine ⟨fun i o h1 h2 => ?_, fun h1 => ?_⟩
      · have := sw_in (by decide) h2
        subst this
        cases h1
      · (repeat ((conv => whnf); (first | refine zo0 ?_ | refine zo1 ?_ | refine br_z ?_ | refine br_o ?_ | refine br_zn ?_ | refine br_on ?_ | refine nz2 ?_ | refine nz6 ?_ | refine nz32 ?_ | refine And.intro (by assumption) ?_))); (conv => whnf)
        rw [ec, y.2.2.2.2]
        exact k
  · exact absurd h id
theorem clM_atOf (l : Launch) : ∀ (a : Nat) (ins : Instr) (b dd : Nat), csM_atOf[a]? = some (ins, b, dd) → am_Call l yM_atOf.cls 7 ins b dd (fnM_atOf a) := by
  intro a ins b dd h
  match a, h with
  | 0, h => cases h; exact am_callV (T := F_11) (N := 52) (okM_runsTold l) wcM_runsTold (am_m5 (i := 112) rfl rfl) wiM_runsTold wsM_runsTold inM rfl (by decide) (by decide +kernel) (by decide) (by decide)
  | k + 1, h => simp [csM_atOf] at h
theorem okM_atOf (l : Launch) : am_Ok l yM_atOf prog_13_method_40_code 3 (some .int) 7 spM_atOf := am_ok_of (by decide +kernel) flM_ok kiM_ok klM_ok ckM_atOf (clM_atOf l) wpM_atOf
def fnM_sumOf : Nat → am_Sp := fun a => match a with
  | 0 => spM_runsTold
  | _ => am_no
theorem mfM_sumOf : ∀ a, am_mono (fnM_sumOf a) := fun a => match a with
  | 0 => moM_runsTold
  | _ + 1 => am_no_mono
def spM_sumOf : am_Sp := fun as D L K => match as with
  | [.ref 49, .int y] => ∃ (v : vs_T) (c : Nat), vok v ∧ im D v ∧ y = nI c ∧ c < 5 ∧ ∀ D', fq D D' → K (some (.int (nI (va v 48 0 (suIx c))))) D' L
  | _ => False
theorem moM_sumOf : am_mono spM_sumOf := by
  intro as D L K K' hK h
  unfold spM_sumOf at h ⊢
  split at h
  · obtain ⟨z0, z1, z2, z3, z4, z5, hz⟩ := h
    exact ⟨z0, z1, z2, z3, z4, z5, fun D' q => hK _ _ _ (hz D' q)⟩
  · exact h
theorem wpM_sumOf : ∀ (as : List Value) (D : am_D) (L : am_L) (K : am_K), spM_sumOf as D L K → am_fit 2 as = true ∧ am_Wp false 0 cdM_sumOf fnM_sumOf K 0 (am_lo 2 as) [] D L := by
  intro as D L K h
  unfold spM_sumOf at h
  split at h
  · obtain ⟨v, c, hv, hi, rfl, hc, hK⟩ := h
    refine ⟨rfl, am_Wp_bl mfM_sumOf [] 40 _ _ _ _ _ ?_⟩
    (repeat ((conv => whnf); (first | refine zo0 ?_ | refine zo1 ?_ | refine br_z ?_ | refine br_o ?_ | refine br_zn ?_ | refine br_on ?_ | refine nz2 ?_ | refine nz6 ?_ | refine nz32 ?_ | refine And.intro (by assumption) ?_))); (conv => whnf)
    refine ⟨v, hv, hi, fun D1 g f1 p1 w1 y1 => ?_⟩
    have k := hK D1 f1
    obtain ⟨aL, a16, a17, a18, a19, a20, a21, a22, a23, a24, a25, a26, a27⟩ := w1
    match c, hc, k with
    | 0, _, k =>
      (repeat ((conv => whnf); (first | refine zo0 ?_ | refine zo1 ?_ | refine br_z ?_ | refine br_o ?_ | refine br_zn ?_ | refine br_on ?_ | refine nz2 ?_ | refine nz6 ?_ | refine nz32 ?_ | refine And.intro (by assumption) ?_))); (conv => whnf)
      refine ⟨fun i o h1 h2 => ?_, fun h1 => (sw_no (n := 4) (by decide) (by decide) h1).elim⟩
      have := sw_in (by decide) h2
      subst this
      cases h1
      (repeat ((conv => whnf); (first | refine zo0 ?_ | refine zo1 ?_ | refine br_z ?_ | refine br_o ?_ | refine br_zn ?_ | refine br_on ?_ | refine nz2 ?_ | refine nz6 ?_ | refine nz32 ?_ | refine And.intro (by assumption) ?_))); (conv => whnf)
      rw [a24]
      exact k
    | 1, _, k =>
      (repeat ((conv => whnf); (first | refine zo0 ?_ | refine zo1 ?_ | refine br_z ?_ | refine br_o ?_ | refine br_zn ?_ | refine br_on ?_ | refine nz2 ?_ | refine nz6 ?_ | refine nz32 ?_ | refine And.intro (by assumption) ?_))); (conv => whnf)
      refine ⟨fun i o h1 h2 => ?_, fun h1 => (sw_no (n := 4) (by decide) (by decide) h1).elim⟩
      have := sw_in (by decide) h2
      subst this
      cases h1
      (repeat ((conv => whnf); (first | refine zo0 ?_ | refine zo1 ?_ | refine br_z ?_ | refine br_o ?_ | refine br_zn ?_ | refine br_on ?_ | refine nz2 ?_ | refine nz6 ?_ | refine nz32 ?_ | refine And.intro (by assumption) ?_))); (conv => whnf)
      rw [a25]
      exact k
    | 2, _, k =>
      (repeat ((conv => whnf); (first | refine zo0 ?_ | refine zo1 ?_ | refine br_z ?_ | refine br_o ?_ | refine br_zn ?_ | refine br_on ?_ | refine nz2 ?_ | refine nz6 ?_ | refine nz32 ?_ | refine And.intro (by assumption) ?_))); (conv => whnf)
      refine ⟨fun i o h1 h2 => ?_, fun h1 => (sw_no (n := 4) (by decide) (by decide) h1).elim⟩
      have := sw_in (by decide) h2
      subst this
      cases h1
      (repeat ((conv => whnf); (first | refine zo0 ?_ | refine zo1 ?_ | refine br_z ?_ | refine br_o ?_ | refine br_zn ?_ | refine br_on ?_ | refine nz2 ?_ | refine nz6 ?_ | refine nz32 ?_ | refine And.intro (by assumption) ?_))); (conv => whnf)
      rw [a26]
      exact k
    | 3, _, k =>
      (repeat ((conv => whnf); (first | refine zo0 ?_ | refine zo1 ?_ | refine br_z ?_ | refine br_o ?_ | refine br_zn ?_ | refine br_on ?_ | refine nz2 ?_ | refine nz6 ?_ | refine nz32 ?_ | refine And.intro (by assumption) ?_))); (conv => whnf)
      refine ⟨fun i o h1 h2 => ?_, fun h1 => (sw_no (n := 4) (by decide) (by decide) h1).elim⟩
      have := sw_in (by decide) h2
      subst this
      cases h1
      (repeat ((conv => whnf); (first | refine zo0 ?_ | refine zo1 ?_ | refine br_z ?_ | refine br_o ?_ | refine br_zn ?_ | refine br_on ?_ | refine nz2 ?_ | refine nz6 ?_ | refine nz32 ?_ | refine And.intro (by assumption) ?_))); (conv => whnf)
      rw [a27]
      exact k
    | 4, _, k =>
      (repeat ((conv => whnf); (first | refine zo0 ?_ | refine zo1 ?_ | refine br_z ?_ | refine br_o ?_ | refine br_zn ?_ | refine br_on ?_ | refine nz2 ?_ | refine nz6 ?_ | refine nz32 ?_ | refine And.intro (by assumption) ?_))); (conv => whnf)
      refine ⟨fun i o h1 h2 => ?_, fun h1 => ?_⟩
      · have := sw_in (by decide) h2
        subst this
        cases h1
      · (repeat ((conv => whnf); (first | refine zo0 ?_ | refine zo1 ?_ | refine br_z ?_ | refine br_o ?_ | refine br_zn ?_ | refine br_on ?_ | refine nz2 ?_ | refine nz6 ?_ | refine nz32 ?_ | refine And.intro (by assumption) ?_))); (conv => whnf)
        rw [a20]
        exact k
  · exact absurd h id
theorem clM_sumOf (l : Launch) : ∀ (a : Nat) (ins : Instr) (b dd : Nat), csM_sumOf[a]? = some (ins, b, dd) → am_Call l yM_sumOf.cls 7 ins b dd (fnM_sumOf a) := by
  intro a ins b dd h
  match a, h with
  | 0, h => cases h; exact am_callV (T := F_11) (N := 52) (okM_runsTold l) wcM_runsTold (am_m5 (i := 112) rfl rfl) wiM_runsTold wsM_runsTold inM rfl (by decide) (by decide +kernel) (by decide) (by decide)
  | k + 1, h => simp [csM_sumOf] at h
theorem okM_sumOf (l : Launch) : am_Ok l yM_sumOf prog_13_method_46_code 2 (some .int) 7 spM_sumOf := am_ok_of (by decide +kernel) flM_ok kiM_ok klM_ok ckM_sumOf (clM_sumOf l) wpM_sumOf
def fnM_doorOf : Nat → am_Sp := fun a => match a with
  | 0 => spM_asTold
  | 1 => spM_runsBy
  | _ => am_no
theorem mfM_doorOf : ∀ a, am_mono (fnM_doorOf a) := fun a => match a with
  | 0 => moM_asTold
  | 1 => moM_runsBy
  | _ + 2 => am_no_mono
def spM_doorOf : am_Sp := fun as D L K => match as with
  | [.ref 49, .int x, .int y, .int z] => ∃ (v : vs_T) (t d c : Nat), vok v ∧ im D v ∧ x = nI t ∧ t < 48 ∧ y = nI d ∧ d < 12 ∧ z = nI c ∧ c < 3 ∧ ∀ D', fq D D' → K (some (.int (nI (va v (t + 1) (c + 1) d)))) D' L
  | _ => False
theorem moM_doorOf : am_mono spM_doorOf := by
  intro as D L K K' hK h
  unfold spM_doorOf at h ⊢
  split at h
  · obtain ⟨z0, z1, z2, z3, z4, z5, z6, z7, z8, z9, z10, z11, hz⟩ := h
    exact ⟨z0, z1, z2, z3, z4, z5, z6, z7, z8, z9, z10, z11, fun D' q => hK _ _ _ (hz D' q)⟩
  · exact h
theorem wpM_doorOf : ∀ (as : List Value) (D : am_D) (L : am_L) (K : am_K), spM_doorOf as D L K → am_fit 4 as = true ∧ am_Wp false 0 cdM_doorOf fnM_doorOf K 0 (am_lo 4 as) [] D L := by
  intro as D L K h
  unfold spM_doorOf at h
  split at h
  · obtain ⟨v, t, d, c, hv, hi, rfl, ht, rfl, hd, rfl, hc, hK⟩ := h
    have ec : (nI d).toNatClampNeg = d := nI_clamp (by omega)
    have hin : vp_in (nI d) 12 := vp_in_nI (by omega) (by decide)
    refine ⟨rfl, am_Wp_bl mfM_doorOf [] 40 _ _ _ _ _ ?_⟩
    (repeat ((conv => whnf); (first | refine zo0 ?_ | refine zo1 ?_ | refine br_z ?_ | refine br_o ?_ | refine br_zn ?_ | refine br_on ?_ | refine nz2 ?_ | refine nz6 ?_ | refine nz32 ?_ | refine And.intro (by assumption) ?_))); (conv => whnf)
    refine ⟨v, hv, hi, fun D1 f1 r1 p1 n1 _ => ?_⟩
    (repeat ((conv => whnf); (first | refine zo0 ?_ | refine zo1 ?_ | refine br_z ?_ | refine br_o ?_ | refine br_zn ?_ | refine br_on ?_ | refine nz2 ?_ | refine nz6 ?_ | refine nz32 ?_ | refine And.intro (by assumption) ?_))); (conv => whnf)
    refine ⟨vpl v, vev v, allp, t, rfl, ht, vpl_ok hv, vev_ok hv, p1, em_im (im_fq hi (fq_fa f1)) hv, by rw [n1]; exact prx_0, fun D2 g f2 w2 y2 => ?_⟩
    have k := hK D2 (fq_tr (fq_fa f1) (fq_fg f2))
    have y := w2.1 d hd
    (repeat ((conv => whnf); (first | refine zo0 ?_ | refine zo1 ?_ | refine br_z ?_ | refine br_o ?_ | refine br_zn ?_ | refine br_on ?_ | refine nz2 ?_ | refine nz6 ?_ | refine nz32 ?_ | refine And.intro (by assumption) ?_))); (conv => whnf)
    have c0 : nI c = 0 ↔ c = 0 := by rw [← nI_0, nI_eq (by omega) (by omega)]
    have c1 : nI c = 1 ↔ c = 1 := by rw [← nc1, nI_eq (by omega) (by omega)]
    rw [c0]
    refine ⟨fun h1 => ?_, fun h1 => ?_⟩
    · (repeat ((conv => whnf); (first | refine zo0 ?_ | refine zo1 ?_ | refine br_z ?_ | refine br_o ?_ | refine br_zn ?_ | refine br_on ?_ | refine nz2 ?_ | refine nz6 ?_ | refine nz32 ?_ | refine And.intro (by assumption) ?_))); (conv => whnf)
      rw [c1]
      refine ⟨fun h2 => ?_, fun h2 => ?_⟩
      · (repeat ((conv => whnf); (first | refine zo0 ?_ | refine zo1 ?_ | refine br_z ?_ | refine br_o ?_ | refine br_zn ?_ | refine br_on ?_ | refine nz2 ?_ | refine nz6 ?_ | refine nz32 ?_ | refine And.intro (by assumption) ?_))); (conv => whnf)
        rw [ec, y.2.2]
        rw [show c = 2 by omega] at k
        exact k
      · (repeat ((conv => whnf); (first | refine zo0 ?_ | refine zo1 ?_ | refine br_z ?_ | refine br_o ?_ | refine br_zn ?_ | refine br_on ?_ | refine nz2 ?_ | refine nz6 ?_ | refine nz32 ?_ | refine And.intro (by assumption) ?_))); (conv => whnf)
        rw [ec, y.2.1]
        rw [h2] at k
        exact k
    · (repeat ((conv => whnf); (first | refine zo0 ?_ | refine zo1 ?_ | refine br_z ?_ | refine br_o ?_ | refine br_zn ?_ | refine br_on ?_ | refine nz2 ?_ | refine nz6 ?_ | refine nz32 ?_ | refine And.intro (by assumption) ?_))); (conv => whnf)
      rw [ec, y.1]
      rw [h1] at k
      exact k
  · exact absurd h id
theorem clM_doorOf (l : Launch) : ∀ (a : Nat) (ins : Instr) (b dd : Nat), csM_doorOf[a]? = some (ins, b, dd) → am_Call l yM_doorOf.cls 5 ins b dd (fnM_doorOf a) := by
  intro a ins b dd h
  match a, h with
  | 0, h => cases h; exact am_callV (T := F_11) (N := 52) (okM_asTold l) wcM_asTold (am_m5 (i := 116) rfl rfl) wiM_asTold wsM_asTold inM rfl (by decide) (by decide +kernel) (by decide) (by decide)
  | 1, h => cases h; exact am_callV (T := F_11) (N := 52) (okM_runsBy l) wcM_runsBy (am_m5 (i := 124) rfl rfl) wiM_runsBy wsM_runsBy inM rfl (by decide) (by decide +kernel) (by decide) (by decide)
  | k + 2, h => simp [csM_doorOf] at h
theorem okM_doorOf (l : Launch) : am_Ok l yM_doorOf prog_13_method_42_code 4 (some .int) 5 spM_doorOf := am_ok_of (by decide +kernel) flM_ok kiM_ok klM_ok ckM_doorOf (clM_doorOf l) wpM_doorOf
def fnM_doneOf : Nat → am_Sp := fun a => match a with
  | 0 => spM_runsTold
  | _ => am_no
theorem mfM_doneOf : ∀ a, am_mono (fnM_doneOf a) := fun a => match a with
  | 0 => moM_runsTold
  | _ + 1 => am_no_mono
def spM_doneOf : am_Sp := fun as D L K => match as with
  | [.ref 49, .int y] => ∃ (v : vs_T) (d : Nat), vok v ∧ im D v ∧ y = nI d ∧ d < 12 ∧ ∀ D', fq D D' → K (some (.int (aDone v d))) D' L
  | _ => False
theorem moM_doneOf : am_mono spM_doneOf := by
  intro as D L K K' hK h
  unfold spM_doneOf at h ⊢
  split at h
  · obtain ⟨z0, z1, z2, z3, z4, z5, hz⟩ := h
    exact ⟨z0, z1, z2, z3, z4, z5, fun D' q => hK _ _ _ (hz D' q)⟩
  · exact h
theorem wpM_doneOf : ∀ (as : List Value) (D : am_D) (L : am_L) (K : am_K), spM_doneOf as D L K → am_fit 2 as = true ∧ am_Wp false 0 cdM_doneOf fnM_doneOf K 0 (am_lo 2 as) [] D L := by
  intro as D L K h
  unfold spM_doneOf at h
  split at h
  · obtain ⟨v, d, hv, hi, rfl, hd, hK⟩ := h
    have ec : (nI d).toNatClampNeg = d := nI_clamp (by omega)
    have hin : vp_in (nI d) 12 := vp_in_nI (by omega) (by decide)
    refine ⟨rfl, am_Wp_bl mfM_doneOf [] 40 _ _ _ _ _ ?_⟩
    (repeat ((conv => whnf); (first | refine zo0 ?_ | refine zo1 ?_ | refine br_z ?_ | refine br_o ?_ | refine br_zn ?_ | refine br_on ?_ | refine nz2 ?_ | refine nz6 ?_ | refine nz32 ?_ | refine And.intro (by assumption) ?_))); (conv => whnf)
    refine ⟨v, hv, hi, fun D1 g f1 p1 w1 y1 => ?_⟩
    have k := hK D1 f1
    (repeat ((conv => whnf); (first | refine zo0 ?_ | refine zo1 ?_ | refine br_z ?_ | refine br_o ?_ | refine br_zn ?_ | refine br_on ?_ | refine nz2 ?_ | refine nz6 ?_ | refine nz32 ?_ | refine And.intro (by assumption) ?_))); (conv => whnf)
    rw [ec, y1.2.1 d hd]
    exact k
  · exact absurd h id
theorem clM_doneOf (l : Launch) : ∀ (a : Nat) (ins : Instr) (b dd : Nat), csM_doneOf[a]? = some (ins, b, dd) → am_Call l yM_doneOf.cls 7 ins b dd (fnM_doneOf a) := by
  intro a ins b dd h
  match a, h with
  | 0, h => cases h; exact am_callV (T := F_11) (N := 52) (okM_runsTold l) wcM_runsTold (am_m5 (i := 112) rfl rfl) wiM_runsTold wsM_runsTold inM rfl (by decide) (by decide +kernel) (by decide) (by decide)
  | k + 1, h => simp [csM_doneOf] at h
theorem okM_doneOf (l : Launch) : am_Ok l yM_doneOf prog_13_method_44_code 2 (some .int) 7 spM_doneOf := am_ok_of (by decide +kernel) flM_ok kiM_ok klM_ok ckM_doneOf (clM_doneOf l) wpM_doneOf
def fnM_overOf : Nat → am_Sp := fun a => match a with
  | 0 => spM_runsTold
  | _ => am_no
theorem mfM_overOf : ∀ a, am_mono (fnM_overOf a) := fun a => match a with
  | 0 => moM_runsTold
  | _ + 1 => am_no_mono
def spM_overOf : am_Sp := fun as D L K => match as with
  | [.ref 49] => ∃ (v : vs_T), vok v ∧ im D v ∧ ∀ D', fq D D' → K (some (.int (aOver v))) D' L
  | _ => False
theorem moM_overOf : am_mono spM_overOf := by
  intro as D L K K' hK h
  unfold spM_overOf at h ⊢
  split at h
  · obtain ⟨z0, z1, z2, hz⟩ := h
    exact ⟨z0, z1, z2, fun D' q => hK _ _ _ (hz D' q)⟩
  · exact h
theorem wpM_overOf : ∀ (as : List Value) (D : am_D) (L : am_L) (K : am_K), spM_overOf as D L K → am_fit 1 as = true ∧ am_Wp false 0 cdM_overOf fnM_overOf K 0 (am_lo 1 as) [] D L := by
  intro as D L K h
  unfold spM_overOf at h
  split at h
  · obtain ⟨v, hv, hi, hK⟩ := h
    refine ⟨rfl, am_Wp_bl mfM_overOf [] 40 _ _ _ _ _ ?_⟩
    (repeat ((conv => whnf); (first | refine zo0 ?_ | refine zo1 ?_ | refine br_z ?_ | refine br_o ?_ | refine br_zn ?_ | refine br_on ?_ | refine nz2 ?_ | refine nz6 ?_ | refine nz32 ?_ | refine And.intro (by assumption) ?_))); (conv => whnf)
    refine ⟨v, hv, hi, fun D1 g f1 p1 w1 y1 => ?_⟩
    have k := hK D1 f1
    (repeat ((conv => whnf); (first | refine zo0 ?_ | refine zo1 ?_ | refine br_z ?_ | refine br_o ?_ | refine br_zn ?_ | refine br_on ?_ | refine nz2 ?_ | refine nz6 ?_ | refine nz32 ?_ | refine And.intro (by assumption) ?_))); (conv => whnf)
    rw [y1.2.2]
    exact k
  · exact absurd h id
theorem clM_overOf (l : Launch) : ∀ (a : Nat) (ins : Instr) (b dd : Nat), csM_overOf[a]? = some (ins, b, dd) → am_Call l yM_overOf.cls 7 ins b dd (fnM_overOf a) := by
  intro a ins b dd h
  match a, h with
  | 0, h => cases h; exact am_callV (T := F_11) (N := 52) (okM_runsTold l) wcM_runsTold (am_m5 (i := 112) rfl rfl) wiM_runsTold wsM_runsTold inM rfl (by decide) (by decide +kernel) (by decide) (by decide)
  | k + 1, h => simp [csM_overOf] at h
theorem okM_overOf (l : Launch) : am_Ok l yM_overOf prog_13_method_48_code 1 (some .int) 7 spM_overOf := am_ok_of (by decide +kernel) flM_ok kiM_ok klM_ok ckM_overOf (clM_overOf l) wpM_overOf
def fnM_lacksOf : Nat → am_Sp := fun a => match a with
  | 0 => spM_runsTold
  | 1 => spM_shortNow
  | _ => am_no
theorem mfM_lacksOf : ∀ a, am_mono (fnM_lacksOf a) := fun a => match a with
  | 0 => moM_runsTold
  | 1 => moM_shortNow
  | _ + 2 => am_no_mono
def spM_lacksOf : am_Sp := fun as D L K => match as with
  | [.ref 49] => ∃ (v : vs_T), vok v ∧ im D v ∧ ∀ D', fq D D' → K (some (.int (mw_lk (vpl v) (va v 48) 12))) D' L
  | _ => False
theorem moM_lacksOf : am_mono spM_lacksOf := by
  intro as D L K K' hK h
  unfold spM_lacksOf at h ⊢
  split at h
  · obtain ⟨z0, z1, z2, hz⟩ := h
    exact ⟨z0, z1, z2, fun D' q => hK _ _ _ (hz D' q)⟩
  · exact h
theorem wpM_lacksOf : ∀ (as : List Value) (D : am_D) (L : am_L) (K : am_K), spM_lacksOf as D L K → am_fit 1 as = true ∧ am_Wp false 0 cdM_lacksOf fnM_lacksOf K 0 (am_lo 1 as) [] D L := by
  intro as D L K h
  unfold spM_lacksOf at h
  split at h
  · obtain ⟨v, hv, hi, hK⟩ := h
    refine ⟨rfl, am_Wp_bl mfM_lacksOf [] 40 _ _ _ _ _ ?_⟩
    (repeat ((conv => whnf); (first | refine zo0 ?_ | refine zo1 ?_ | refine br_z ?_ | refine br_o ?_ | refine br_zn ?_ | refine br_on ?_ | refine nz2 ?_ | refine nz6 ?_ | refine nz32 ?_ | refine And.intro (by assumption) ?_))); (conv => whnf)
    refine ⟨v, hv, hi, fun D1 g f1 p1 w1 y1 => ?_⟩
    have k := hK D1 f1
    have ok := mw_run_ok (pr := allp) (vpl_ok hv) (vev_ok hv) 48
    (repeat ((conv => whnf); (first | refine zo0 ?_ | refine zo1 ?_ | refine br_z ?_ | refine br_o ?_ | refine br_zn ?_ | refine br_on ?_ | refine nz2 ?_ | refine nz6 ?_ | refine nz32 ?_ | refine And.intro (by assumption) ?_))); (conv => whnf)
    refine ⟨vpl v, va v 48, fun d hd => ⟨(p1.2.2.2.2.1 d hd).1, (w1.1 d hd).1, (ok.2.2.2.2.2.2.2.2 d hd).1, ((vpl_ok hv).2.2.2.2.2.1 d hd).1⟩, ?_⟩
    (repeat ((conv => whnf); (first | refine zo0 ?_ | refine zo1 ?_ | refine br_z ?_ | refine br_o ?_ | refine br_zn ?_ | refine br_on ?_ | refine nz2 ?_ | refine nz6 ?_ | refine nz32 ?_ | refine And.intro (by assumption) ?_))); (conv => whnf)
    exact k
  · exact absurd h id
theorem clM_lacksOf (l : Launch) : ∀ (a : Nat) (ins : Instr) (b dd : Nat), csM_lacksOf[a]? = some (ins, b, dd) → am_Call l yM_lacksOf.cls 7 ins b dd (fnM_lacksOf a) := by
  intro a ins b dd h
  match a, h with
  | 0, h => cases h; exact am_callV (T := F_11) (N := 52) (okM_runsTold l) wcM_runsTold (am_m5 (i := 112) rfl rfl) wiM_runsTold wsM_runsTold inM rfl (by decide) (by decide +kernel) (by decide) (by decide)
  | 1, h => cases h; exact am_callV (T := F_11) (N := 52) (okM_shortNow l) wcM_shortNow (am_m5 (i := 209) rfl rfl) wiM_shortNow wsM_shortNow inM rfl (by decide) (by decide +kernel) (by decide) (by decide)
  | k + 2, h => simp [csM_lacksOf] at h
theorem okM_lacksOf (l : Launch) : am_Ok l yM_lacksOf prog_13_method_52_code 1 (some .int) 7 spM_lacksOf := am_ok_of (by decide +kernel) flM_ok kiM_ok klM_ok ckM_lacksOf (clM_lacksOf l) wpM_lacksOf
def fnM_shortOf : Nat → am_Sp := fun a => match a with
  | 0 => spM_runsTold
  | 1 => spM_manyShort
  | _ => am_no
theorem mfM_shortOf : ∀ a, am_mono (fnM_shortOf a) := fun a => match a with
  | 0 => moM_runsTold
  | 1 => moM_manyShort
  | _ + 2 => am_no_mono
def spM_shortOf : am_Sp := fun as D L K => match as with
  | [.ref 49] => ∃ (v : vs_T), vok v ∧ im D v ∧ ∀ D', fq D D' → K (some (.int (nI (mw_ns (vpl v) (va v 48) 12)))) D' L
  | _ => False
theorem moM_shortOf : am_mono spM_shortOf := by
  intro as D L K K' hK h
  unfold spM_shortOf at h ⊢
  split at h
  · obtain ⟨z0, z1, z2, hz⟩ := h
    exact ⟨z0, z1, z2, fun D' q => hK _ _ _ (hz D' q)⟩
  · exact h
theorem wpM_shortOf : ∀ (as : List Value) (D : am_D) (L : am_L) (K : am_K), spM_shortOf as D L K → am_fit 1 as = true ∧ am_Wp false 0 cdM_shortOf fnM_shortOf K 0 (am_lo 1 as) [] D L := by
  intro as D L K h
  unfold spM_shortOf at h
  split at h
  · obtain ⟨v, hv, hi, hK⟩ := h
    refine ⟨rfl, am_Wp_bl mfM_shortOf [] 40 _ _ _ _ _ ?_⟩
    (repeat ((conv => whnf); (first | refine zo0 ?_ | refine zo1 ?_ | refine br_z ?_ | refine br_o ?_ | refine br_zn ?_ | refine br_on ?_ | refine nz2 ?_ | refine nz6 ?_ | refine nz32 ?_ | refine And.intro (by assumption) ?_))); (conv => whnf)
    refine ⟨v, hv, hi, fun D1 g f1 p1 w1 y1 => ?_⟩
    have k := hK D1 f1
    have ok := mw_run_ok (pr := allp) (vpl_ok hv) (vev_ok hv) 48
    (repeat ((conv => whnf); (first | refine zo0 ?_ | refine zo1 ?_ | refine br_z ?_ | refine br_o ?_ | refine br_zn ?_ | refine br_on ?_ | refine nz2 ?_ | refine nz6 ?_ | refine nz32 ?_ | refine And.intro (by assumption) ?_))); (conv => whnf)
    refine ⟨vpl v, va v 48, fun d hd => ⟨(p1.2.2.2.2.1 d hd).1, (w1.1 d hd).1, (ok.2.2.2.2.2.2.2.2 d hd).1, ((vpl_ok hv).2.2.2.2.2.1 d hd).1⟩, ?_⟩
    (repeat ((conv => whnf); (first | refine zo0 ?_ | refine zo1 ?_ | refine br_z ?_ | refine br_o ?_ | refine br_zn ?_ | refine br_on ?_ | refine nz2 ?_ | refine nz6 ?_ | refine nz32 ?_ | refine And.intro (by assumption) ?_))); (conv => whnf)
    exact k
  · exact absurd h id
theorem clM_shortOf (l : Launch) : ∀ (a : Nat) (ins : Instr) (b dd : Nat), csM_shortOf[a]? = some (ins, b, dd) → am_Call l yM_shortOf.cls 7 ins b dd (fnM_shortOf a) := by
  intro a ins b dd h
  match a, h with
  | 0, h => cases h; exact am_callV (T := F_11) (N := 52) (okM_runsTold l) wcM_runsTold (am_m5 (i := 112) rfl rfl) wiM_runsTold wsM_runsTold inM rfl (by decide) (by decide +kernel) (by decide) (by decide)
  | 1, h => cases h; exact am_callV (T := F_11) (N := 52) (okM_manyShort l) wcM_manyShort (am_m5 (i := 229) rfl rfl) wiM_manyShort wsM_manyShort inM rfl (by decide) (by decide +kernel) (by decide) (by decide)
  | k + 2, h => simp [csM_shortOf] at h
theorem okM_shortOf (l : Launch) : am_Ok l yM_shortOf prog_13_method_93_code 1 (some .int) 7 spM_shortOf := am_ok_of (by decide +kernel) flM_ok kiM_ok klM_ok ckM_shortOf (clM_shortOf l) wpM_shortOf
def fnM_roundOf : Nat → am_Sp := fun a => match a with
  | 0 => spM_reads
  | _ => am_no
theorem mfM_roundOf : ∀ a, am_mono (fnM_roundOf a) := fun a => match a with
  | 0 => moM_reads
  | _ + 1 => am_no_mono
def spM_roundOf : am_Sp := fun as D L K => match as with
  | [.ref 49, .int y] => ∃ (v : vs_T) (i : Nat), vok v ∧ im D v ∧ y = nI i ∧ i < 24 ∧ ∀ D', fq D D' → K (some (.int (if i < vpl v 0 0 then nI (vpl v 3 i) else -1))) D' L
  | _ => False
theorem moM_roundOf : am_mono spM_roundOf := by
  intro as D L K K' hK h
  unfold spM_roundOf at h ⊢
  split at h
  · obtain ⟨z0, z1, z2, z3, z4, z5, hz⟩ := h
    exact ⟨z0, z1, z2, z3, z4, z5, fun D' q => hK _ _ _ (hz D' q)⟩
  · exact h
theorem wpM_roundOf : ∀ (as : List Value) (D : am_D) (L : am_L) (K : am_K), spM_roundOf as D L K → am_fit 2 as = true ∧ am_Wp false 0 cdM_roundOf fnM_roundOf K 0 (am_lo 2 as) [] D L := by
  intro as D L K h
  unfold spM_roundOf at h
  split at h
  · obtain ⟨v, i, hv, hi, rfl, hd, hK⟩ := h
    have ec : (nI i).toNatClampNeg = i := nI_clamp (by omega)
    have hin : vp_in (nI i) 24 := vp_in_nI (by omega) (by decide)
    refine ⟨rfl, am_Wp_bl mfM_roundOf [] 40 _ _ _ _ _ ?_⟩
    (repeat ((conv => whnf); (first | refine zo0 ?_ | refine zo1 ?_ | refine br_z ?_ | refine br_o ?_ | refine br_zn ?_ | refine br_on ?_ | refine nz2 ?_ | refine nz6 ?_ | refine nz32 ?_ | refine And.intro (by assumption) ?_))); (conv => whnf)
    refine ⟨v, hv, hi, fun D1 f1 r1 => ?_⟩
    have k := hK D1 (fq_fs f1)
    (repeat ((conv => whnf); (first | refine zo0 ?_ | refine zo1 ?_ | refine br_z ?_ | refine br_o ?_ | refine br_zn ?_ | refine br_on ?_ | refine nz2 ?_ | refine nz6 ?_ | refine nz32 ?_ | refine And.intro (by assumption) ?_))); (conv => whnf)
    rw [ec, r1.2.2 i hd]
    exact k
  · exact absurd h id
theorem clM_roundOf (l : Launch) : ∀ (a : Nat) (ins : Instr) (b dd : Nat), csM_roundOf[a]? = some (ins, b, dd) → am_Call l yM_roundOf.cls 3 ins b dd (fnM_roundOf a) := by
  intro a ins b dd h
  match a, h with
  | 0, h => cases h; exact am_callV (T := F_11) (N := 52) (okM_reads l) wcM_reads (am_m5 (i := 62) rfl rfl) wiM_reads wsM_reads inM rfl (by decide) (by decide +kernel) (by decide) (by decide)
  | k + 1, h => simp [csM_roundOf] at h
theorem okM_roundOf (l : Launch) : am_Ok l yM_roundOf prog_13_method_21_code 2 (some .int) 3 spM_roundOf := am_ok_of (by decide +kernel) flM_ok kiM_ok klM_ok ckM_roundOf (clM_roundOf l) wpM_roundOf
def fnM_toldOf : Nat → am_Sp := fun a => match a with
  | 0 => spM_reads
  | _ => am_no
theorem mfM_toldOf : ∀ a, am_mono (fnM_toldOf a) := fun a => match a with
  | 0 => moM_reads
  | _ + 1 => am_no_mono
def spM_toldOf : am_Sp := fun as D L K => match as with
  | [.ref 49, .int y, .int z] => ∃ (v : vs_T) (d c : Nat), vok v ∧ im D v ∧ y = nI d ∧ d < 12 ∧ z = nI c ∧ c < 2 ∧ ∀ D', fq D D' → K (some (.int (nI (vpl v (c + 1) d)))) D' L
  | _ => False
theorem moM_toldOf : am_mono spM_toldOf := by
  intro as D L K K' hK h
  unfold spM_toldOf at h ⊢
  split at h
  · obtain ⟨z0, z1, z2, z3, z4, z5, z6, z7, z8, hz⟩ := h
    exact ⟨z0, z1, z2, z3, z4, z5, z6, z7, z8, fun D' q => hK _ _ _ (hz D' q)⟩
  · exact h
theorem wpM_toldOf : ∀ (as : List Value) (D : am_D) (L : am_L) (K : am_K), spM_toldOf as D L K → am_fit 3 as = true ∧ am_Wp false 0 cdM_toldOf fnM_toldOf K 0 (am_lo 3 as) [] D L := by
  intro as D L K h
  unfold spM_toldOf at h
  split at h
  · obtain ⟨v, d, c, hv, hi, rfl, hd, rfl, hc, hK⟩ := h
    have ec : (nI d).toNatClampNeg = d := nI_clamp (by omega)
    have hin : vp_in (nI d) 12 := vp_in_nI (by omega) (by decide)
    have c0 : nI c = 0 ↔ c = 0 := by rw [← nI_0, nI_eq (by omega) (by omega)]
    refine ⟨rfl, am_Wp_bl mfM_toldOf [] 40 _ _ _ _ _ ?_⟩
    (repeat ((conv => whnf); (first | refine zo0 ?_ | refine zo1 ?_ | refine br_z ?_ | refine br_o ?_ | refine br_zn ?_ | refine br_on ?_ | refine nz2 ?_ | refine nz6 ?_ | refine nz32 ?_ | refine And.intro (by assumption) ?_))); (conv => whnf)
    refine ⟨v, hv, hi, fun D1 f1 r1 => ?_⟩
    have k := hK D1 (fq_fs f1)
    (repeat ((conv => whnf); (first | refine zo0 ?_ | refine zo1 ?_ | refine br_z ?_ | refine br_o ?_ | refine br_zn ?_ | refine br_on ?_ | refine nz2 ?_ | refine nz6 ?_ | refine nz32 ?_ | refine And.intro (by assumption) ?_))); (conv => whnf)
    rw [c0]
    refine ⟨fun h1 => ?_, fun h1 => ?_⟩
    · (repeat ((conv => whnf); (first | refine zo0 ?_ | refine zo1 ?_ | refine br_z ?_ | refine br_o ?_ | refine br_zn ?_ | refine br_on ?_ | refine nz2 ?_ | refine nz6 ?_ | refine nz32 ?_ | refine And.intro (by assumption) ?_))); (conv => whnf)
      rw [ec, (r1.1 d hd).2]
      rw [show c = 1 by omega] at k
      exact k
    · (repeat ((conv => whnf); (first | refine zo0 ?_ | refine zo1 ?_ | refine br_z ?_ | refine br_o ?_ | refine br_zn ?_ | refine br_on ?_ | refine nz2 ?_ | refine nz6 ?_ | refine nz32 ?_ | refine And.intro (by assumption) ?_))); (conv => whnf)
      rw [ec, (r1.1 d hd).1]
      rw [h1] at k
      exact k
  · exact absurd h id
theorem clM_toldOf (l : Launch) : ∀ (a : Nat) (ins : Instr) (b dd : Nat), csM_toldOf[a]? = some (ins, b, dd) → am_Call l yM_toldOf.cls 3 ins b dd (fnM_toldOf a) := by
  intro a ins b dd h
  match a, h with
  | 0, h => cases h; exact am_callV (T := F_11) (N := 52) (okM_reads l) wcM_reads (am_m5 (i := 62) rfl rfl) wiM_reads wsM_reads inM rfl (by decide) (by decide +kernel) (by decide) (by decide)
  | k + 1, h => simp [csM_toldOf] at h
theorem okM_toldOf (l : Launch) : am_Ok l yM_toldOf prog_13_method_19_code 3 (some .int) 3 spM_toldOf := am_ok_of (by decide +kernel) flM_ok kiM_ok klM_ok ckM_toldOf (clM_toldOf l) wpM_toldOf
def fnM_roundsOf : Nat → am_Sp := fun a => match a with
  | 0 => spM_reads
  | _ => am_no
theorem mfM_roundsOf : ∀ a, am_mono (fnM_roundsOf a) := fun a => match a with
  | 0 => moM_reads
  | _ + 1 => am_no_mono
def spM_roundsOf : am_Sp := fun as D L K => match as with
  | [.ref 49] => ∃ (v : vs_T), vok v ∧ im D v ∧ ∀ D', fq D D' → K (some (.int (nI (vpl v 0 0)))) D' L
  | _ => False
theorem moM_roundsOf : am_mono spM_roundsOf := by
  intro as D L K K' hK h
  unfold spM_roundsOf at h ⊢
  split at h
  · obtain ⟨z0, z1, z2, hz⟩ := h
    exact ⟨z0, z1, z2, fun D' q => hK _ _ _ (hz D' q)⟩
  · exact h
theorem wpM_roundsOf : ∀ (as : List Value) (D : am_D) (L : am_L) (K : am_K), spM_roundsOf as D L K → am_fit 1 as = true ∧ am_Wp false 0 cdM_roundsOf fnM_roundsOf K 0 (am_lo 1 as) [] D L := by
  intro as D L K h
  unfold spM_roundsOf at h
  split at h
  · obtain ⟨v, hv, hi, hK⟩ := h
    refine ⟨rfl, am_Wp_bl mfM_roundsOf [] 40 _ _ _ _ _ ?_⟩
    (repeat ((conv => whnf); (first | refine zo0 ?_ | refine zo1 ?_ | refine br_z ?_ | refine br_o ?_ | refine br_zn ?_ | refine br_on ?_ | refine nz2 ?_ | refine nz6 ?_ | refine nz32 ?_ | refine And.intro (by assumption) ?_))); (conv => whnf)
    refine ⟨v, hv, hi, fun D1 f1 r1 => ?_⟩
    have k := hK D1 (fq_fs f1)
    (repeat ((conv => whnf); (first | refine zo0 ?_ | refine zo1 ?_ | refine br_z ?_ | refine br_o ?_ | refine br_zn ?_ | refine br_on ?_ | refine nz2 ?_ | refine nz6 ?_ | refine nz32 ?_ | refine And.intro (by assumption) ?_))); (conv => whnf)
    rw [r1.2.1]
    exact k
  · exact absurd h id
theorem clM_roundsOf (l : Launch) : ∀ (a : Nat) (ins : Instr) (b dd : Nat), csM_roundsOf[a]? = some (ins, b, dd) → am_Call l yM_roundsOf.cls 3 ins b dd (fnM_roundsOf a) := by
  intro a ins b dd h
  match a, h with
  | 0, h => cases h; exact am_callV (T := F_11) (N := 52) (okM_reads l) wcM_reads (am_m5 (i := 62) rfl rfl) wiM_reads wsM_reads inM rfl (by decide) (by decide +kernel) (by decide) (by decide)
  | k + 1, h => simp [csM_roundsOf] at h
theorem okM_roundsOf (l : Launch) : am_Ok l yM_roundsOf prog_13_method_92_code 1 (some .int) 3 spM_roundsOf := am_ok_of (by decide +kernel) flM_ok kiM_ok klM_ok ckM_roundsOf (clM_roundsOf l) wpM_roundsOf
