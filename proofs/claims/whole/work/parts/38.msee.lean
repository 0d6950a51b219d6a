def fnM_isSeen : Nat → am_Sp := fun a => match a with
  | 0 => spM_runs
  | _ => am_no
theorem mfM_isSeen : ∀ a, am_mono (fnM_isSeen a) := fun a => match a with
  | 0 => moM_runs
  | _ + 1 => am_no_mono
/-! what was seen -/
def vsee (v : vs_T) (tr : Nat → Nat) : Nat → Bool
  | 0 => true
  | k + 1 => vsee v tr k && decide (tr (vn v 5 k) = vn v 6 k)
theorem vsee_f {v : vs_T} {tr : Nat → Nat} {k : Nat} (h : vsee v tr k = false) : ∀ m, vsee v tr (k + m) = false
  | 0 => h
  | m + 1 => by
    show (vsee v tr (k + m) && _) = false
    rw [vsee_f h m]
    rfl
def mS (v : vs_T) (P : mw_T) (pr : Nat → Bool) : Bool := vsee v (fun t => mw_run P (vev v) pr (t + 1) 0 0) (vn v 0 7)
def mbits (f : Nat → Bool) (lo : Nat) : Nat → Int32
  | 0 => 0
  | k + 1 => if f (lo + k) = true then mbits f lo k ||| ((1 : Int32) <<< (nI (lo + k) &&& 31)) else mbits f lo k
def pW (P : mw_T) (d x : Nat) : mw_T := up2 P 1 d x
def but (e : Nat) : Nat → Bool := fun i => decide (i ≠ e)
def aNever (v : vs_T) : Int32 := mbits (fun e => mS v (vpl v) (but e)) 0 (vn v 0 6)
def aNumbers (v : vs_T) (d : Nat) : Int32 := mbits (fun x => mS v (pW (vpl v) d x) allp) 0 6
def aKinds (v : vs_T) : Int32 := mbits (fun h => mS v (pH (vpl v) h) allp) 0 3
def aRooms (v : vs_T) : Int32 := mbits (fun r => mS v (pR (vpl v) r) allp) 1 8
theorem prx_but : ∀ e, e < 8 → ∀ i, i < 8 → but e i = decide ((((1 : Int32) <<< (nI e &&& 31)) >>> (nI i &&& 31)) &&& 1 = 0) := by decide +kernel
theorem pW_ok {P : mw_T} {d x : Nat} (hP : mw_pok P) (hx : x ≤ 5) : mw_pok (pW P d x) := by
  obtain ⟨q1, q2, q3, q4, q5, q6, q7⟩ := hP
  refine ⟨q1, q2, q3, q4, q5, fun i hi => ⟨?_, (q6 i hi).2⟩, q7⟩
  unfold pW up2
  by_cases h : i = d
  · simp [h, hx]
  · simp [h, (q6 i hi).1]
def spM_isSeen : am_Sp := fun as D L K => match as with
  | [.ref 49] => ∃ (v : vs_T) (P : mw_T) (pr : Nat → Bool), vok v ∧ im D v ∧ mw_pok P ∧ pm D P ∧ prx (D 49 15) pr ∧ ∀ (D' : am_D) (r : Int32), fg D D' → (∀ t, t < 48 → D' 65 t = nI (mw_run P (vev v) pr (t + 1) 0 0)) → ((mS v P pr = true ∧ r = 1) ∨ (mS v P pr = false ∧ r = 0)) → K (some (.int r)) D' L
  | _ => False
theorem moM_isSeen : am_mono spM_isSeen := by
  intro as D L K K' hK h
  unfold spM_isSeen at h ⊢
  split at h
  · obtain ⟨v, P, pr, h1, h2, h3, h4, h5, h6⟩ := h
    exact ⟨v, P, pr, h1, h2, h3, h4, h5, fun D' r q1 q2 q3 => hK _ _ _ (h6 D' r q1 q2 q3)⟩
  · exact h
theorem wpM_isSeen : ∀ (as : List Value) (D : am_D) (L : am_L) (K : am_K), spM_isSeen as D L K → am_fit 3 as = true ∧ am_Wp false 0 cdM_isSeen fnM_isSeen K 0 (am_lo 3 as) [] D L := by
  intro as D L K h
  unfold spM_isSeen at h
  split at h
  · obtain ⟨v, P, pr, hv, hi, hP, hp, hpr, hK⟩ := h
    obtain ⟨n, n1, n2, n3⟩ := hv.2.2.2.2.2.2.1
    have en : vn v 0 7 = n := vn_nI n2 (by omega)
    refine ⟨rfl, am_Wp_bl mfM_isSeen [8] 40 _ _ _ _ _ ?_⟩
    (repeat ((conv => whnf); (first | refine zo0 ?_ | refine zo1 ?_ | refine br_z ?_ | refine br_o ?_ | refine br_zn ?_ | refine br_on ?_ | refine nz2 ?_ | refine nz6 ?_ | refine nz32 ?_ | refine And.intro (by assumption) ?_))); (conv => whnf)
    refine ⟨P, vev v, pr, 47, by decide +kernel, by decide, hP, vev_ok hv, hp, em_im hi hv, hpr, fun D1 g f1 w1 y1 => ?_⟩
    have tr : ∀ t, t < 48 → D1 65 t = nI (mw_run P (vev v) pr (t + 1) 0 0) := fun t ht => (y1.1 t ht).1
    have im1 : im D1 v := im_fq hi (fq_fg f1)
    have e42 : D1 49 42 = nI n := by rw [im1.2.2.2.2.2.1, n2]
    have run := mw_run_ok (pr := pr) hP (vev_ok hv)
    have stop : ∀ i, i ≤ n → vsee v (fun t => mw_run P (vev v) pr (t + 1) 0 0) i = false → am_Wp false 0 cdM_isSeen fnM_isSeen K 8 [some (.ref 49), some (.int 0), some (.int (nI i))] [] D1 L := by
      intro i hin hf
      have k : mS v P pr = false := by
        unfold mS
        rw [en]
        have := vsee_f hf (n - i)
        rw [show i + (n - i) = n by omega] at this
        exact this
      refine am_Wp_bl mfM_isSeen [8] 40 _ _ _ _ _ ?_
      (repeat ((conv => whnf); (first | refine zo0 ?_ | refine zo1 ?_ | refine br_z ?_ | refine br_o ?_ | refine br_zn ?_ | refine br_on ?_ | refine nz2 ?_ | refine nz6 ?_ | refine nz32 ?_ | refine And.intro (by assumption) ?_))); (conv => whnf)
      refine ⟨fun h1 => ?_, fun h1 => ?_⟩
      · (repeat ((conv => whnf); (first | refine zo0 ?_ | refine zo1 ?_ | refine br_z ?_ | refine br_o ?_ | refine br_zn ?_ | refine br_on ?_ | refine nz2 ?_ | refine nz6 ?_ | refine nz32 ?_ | refine And.intro (by assumption) ?_))); (conv => whnf)
        exact hK D1 0 f1 tr (Or.inr ⟨k, rfl⟩)
      · (repeat ((conv => whnf); (first | refine zo0 ?_ | refine zo1 ?_ | refine br_z ?_ | refine br_o ?_ | refine br_zn ?_ | refine br_on ?_ | refine nz2 ?_ | refine nz6 ?_ | refine nz32 ?_ | refine And.intro (by assumption) ?_))); (conv => whnf)
        exact hK D1 0 f1 tr (Or.inr ⟨k, rfl⟩)
    have loop : ∀ (m i : Nat), i + m = n → vsee v (fun t => mw_run P (vev v) pr (t + 1) 0 0) i = true → am_Wp false 0 cdM_isSeen fnM_isSeen K 8 [some (.ref 49), some (.int 1), some (.int (nI i))] [] D1 L := by
      intro m
      induction m with
      | zero =>
        intro i hi' hs
        refine am_Wp_bl mfM_isSeen [8] 40 _ _ _ _ _ ?_
        (repeat ((conv => whnf); (first | refine zo0 ?_ | refine zo1 ?_ | refine br_z ?_ | refine br_o ?_ | refine br_zn ?_ | refine br_on ?_ | refine nz2 ?_ | refine nz6 ?_ | refine nz32 ?_ | refine And.intro (by assumption) ?_))); (conv => whnf)
        rw [e42]
        refine ⟨fun h1 => ?_, fun h1 => absurd (nI_le (by omega) (by omega)) h1⟩
        (repeat ((conv => whnf); (first | refine zo0 ?_ | refine zo1 ?_ | refine br_z ?_ | refine br_o ?_ | refine br_zn ?_ | refine br_on ?_ | refine nz2 ?_ | refine nz6 ?_ | refine nz32 ?_ | refine And.intro (by assumption) ?_))); (conv => whnf)
        exact hK D1 1 f1 tr (Or.inl ⟨by unfold mS; rw [en, show n = i by omega]; exact hs, rfl⟩)
      | succ m ih =>
        intro i hi' hs
        have ec : (nI i).toNatClampNeg = i := nI_clamp (by omega)
        have hin : vp_in (nI i) 8 := vp_in_nI (by omega) (by decide)
        obtain ⟨⟨a, a1, a2⟩, ⟨b, b1, b2⟩⟩ := n3 i (by omega)
        have q71 : D1 71 i = nI a := by rw [(im1.2.2.2.2.2.2.1 i (by omega)).1, a2]
        have q72 : D1 72 i = nI b := by rw [(im1.2.2.2.2.2.2.1 i (by omega)).2, b2]
        have eca : (nI a).toNatClampNeg = a := nI_clamp (by omega)
        have ina : vp_in (nI a) 48 := vp_in_nI (by omega) (by decide)
        have va5 : vn v 5 i = a := vn_nI a2 (by omega)
        have va6 : vn v 6 i = b := vn_nI b2 (by omega)
        have hm := (run (a + 1)).1
        refine am_Wp_bl mfM_isSeen [8] 60 _ _ _ _ _ ?_
        (repeat ((conv => whnf); (first | refine zo0 ?_ | refine zo1 ?_ | refine br_z ?_ | refine br_o ?_ | refine br_zn ?_ | refine br_on ?_ | refine nz2 ?_ | refine nz6 ?_ | refine nz32 ?_ | refine And.intro (by assumption) ?_))); (conv => whnf)
        rw [e42]
        refine ⟨fun h1 => absurd h1 (nI_ge (by omega) (by omega)), fun h1 => ?_⟩
        (repeat ((conv => whnf); (first | refine zo0 ?_ | refine zo1 ?_ | refine br_z ?_ | refine br_o ?_ | refine br_zn ?_ | refine br_on ?_ | refine nz2 ?_ | refine nz6 ?_ | refine nz32 ?_ | refine And.intro (by assumption) ?_))); (conv => whnf)
        rw [ec, q71]
        (repeat ((conv => whnf); (first | refine zo0 ?_ | refine zo1 ?_ | refine br_z ?_ | refine br_o ?_ | refine br_zn ?_ | refine br_on ?_ | refine nz2 ?_ | refine nz6 ?_ | refine nz32 ?_ | refine And.intro (by assumption) ?_))); (conv => whnf)
        rw [ec, eca, q72, tr a (by omega), nI_eq (by omega) (by omega)]
        refine ⟨fun h2 => ?_, fun h2 => ?_⟩
        · (repeat ((conv => whnf); (first | refine zo0 ?_ | refine zo1 ?_ | refine br_z ?_ | refine br_o ?_ | refine br_zn ?_ | refine br_on ?_ | refine nz2 ?_ | refine nz6 ?_ | refine nz32 ?_ | refine And.intro (by assumption) ?_))); (conv => whnf)
          rw [nI_1]
          refine stop (i + 1) (by omega) ?_
          show (vsee v _ i && decide _) = false
          rw [hs, va5, va6, decide_eq_false h2]
          rfl
        · (repeat ((conv => whnf); (first | refine zo0 ?_ | refine zo1 ?_ | refine br_z ?_ | refine br_o ?_ | refine br_zn ?_ | refine br_on ?_ | refine nz2 ?_ | refine nz6 ?_ | refine nz32 ?_ | refine And.intro (by assumption) ?_))); (conv => whnf)
          rw [nI_1]
          refine ih (i + 1) (by omega) ?_
          show (vsee v _ i && decide _) = true
          rw [hs, va5, va6, decide_eq_true h2]
          rfl
    (repeat ((conv => whnf); (first | refine zo0 ?_ | refine zo1 ?_ | refine br_z ?_ | refine br_o ?_ | refine br_zn ?_ | refine br_on ?_ | refine nz2 ?_ | refine nz6 ?_ | refine nz32 ?_ | refine And.intro (by assumption) ?_))); (conv => whnf)
    exact loop n 0 (by omega) rfl
  · exact absurd h id
theorem clM_isSeen (l : Launch) : ∀ (a : Nat) (ins : Instr) (b dd : Nat), csM_isSeen[a]? = some (ins, b, dd) → am_Call l yM_isSeen.cls 6 ins b dd (fnM_isSeen a) := by
  intro a ins b dd h
  match a, h with
  | 0, h => cases h; exact am_callV (T := F_11) (N := 52) (okM_runs l) wcM_runs (am_m5 (i := 120) rfl rfl) wiM_runs wsM_runs inM rfl (by decide) (by decide +kernel) (by decide) (by decide)
  | k + 1, h => simp [csM_isSeen] at h
theorem okM_isSeen (l : Launch) : am_Ok l yM_isSeen prog_13_method_68_code 3 (some .boolean) 6 spM_isSeen := am_ok_of (by decide +kernel) flM_ok kiM_ok klM_ok ckM_isSeen (clM_isSeen l) wpM_isSeen
def fnM_neverNow : Nat → am_Sp := fun a => match a with
  | 0 => spM_asTold
  | 1 => spM_isSeen
  | _ => am_no
theorem mfM_neverNow : ∀ a, am_mono (fnM_neverNow a) := fun a => match a with
  | 0 => moM_asTold
  | 1 => moM_isSeen
  | _ + 2 => am_no_mono
def spM_neverNow : am_Sp := fun as D L K => match as with
  | [.ref 49] => ∃ (v : vs_T), vok v ∧ im D v ∧ ∀ D', fq D D' → K (some (.int (aNever v))) D' L
  | _ => False
theorem moM_neverNow : am_mono spM_neverNow := by
  intro as D L K K' hK h
  unfold spM_neverNow at h ⊢
  split at h
  · obtain ⟨z0, z1, z2, hz⟩ := h
    exact ⟨z0, z1, z2, fun D' q => hK _ _ _ (hz D' q)⟩
  · exact h
theorem wpM_neverNow : ∀ (as : List Value) (D : am_D) (L : am_L) (K : am_K), spM_neverNow as D L K → am_fit 3 as = true ∧ am_Wp false 0 cdM_neverNow fnM_neverNow K 0 (am_lo 3 as) [] D L := by
  intro as D L K h
  unfold spM_neverNow at h
  split at h
  · obtain ⟨v, hv, hi, hK⟩ := h
    obtain ⟨n, n1, n2, n3⟩ := hv.2.2.2.2.2.1
    have en : vn v 0 6 = n := vn_nI n2 (by omega)
    have loop : ∀ (m i : Nat) (D' : am_D), i + m = n → fq D D' → pm D' (vpl v) → am_Wp false 0 cdM_neverNow fnM_neverNow K 8 [some (.ref 49), some (.int (mbits (fun e => mS v (vpl v) (but e)) 0 i)), some (.int (nI i))] [] D' L := by
      intro m
      induction m with
      | zero =>
        intro i D' hi' hf hp
        have e7 : D' 49 7 = nI n := by rw [hf.2.1, hi.2.2.2.1, n2]
        refine am_Wp_bl mfM_neverNow [8] 40 _ _ _ _ _ ?_
        (repeat ((conv => whnf); (first | refine zo0 ?_ | refine zo1 ?_ | refine br_z ?_ | refine br_o ?_ | refine br_zn ?_ | refine br_on ?_ | refine nz2 ?_ | refine nz6 ?_ | refine nz32 ?_ | refine And.intro (by assumption) ?_))); (conv => whnf)
        rw [e7]
        refine ⟨fun h1 => ?_, fun h1 => absurd (nI_le (by omega) (by omega)) h1⟩
        (repeat ((conv => whnf); (first | refine zo0 ?_ | refine zo1 ?_ | refine br_z ?_ | refine br_o ?_ | refine br_zn ?_ | refine br_on ?_ | refine nz2 ?_ | refine nz6 ?_ | refine nz32 ?_ | refine And.intro (by assumption) ?_))); (conv => whnf)
        have k := hK D' hf
        unfold aNever at k
        rw [en, show n = i by omega] at k
        exact k
      | succ m ih =>
        intro i D' hi' hf hp
        have e7 : D' 49 7 = nI n := by rw [hf.2.1, hi.2.2.2.1, n2]
        refine am_Wp_bl mfM_neverNow [8] 40 _ _ _ _ _ ?_
        (repeat ((conv => whnf); (first | refine zo0 ?_ | refine zo1 ?_ | refine br_z ?_ | refine br_o ?_ | refine br_zn ?_ | refine br_on ?_ | refine nz2 ?_ | refine nz6 ?_ | refine nz32 ?_ | refine And.intro (by assumption) ?_))); (conv => whnf)
        rw [e7]
        refine ⟨fun h1 => absurd h1 (nI_ge (by omega) (by omega)), fun h1 => ?_⟩
        (repeat ((conv => whnf); (first | refine zo0 ?_ | refine zo1 ?_ | refine br_z ?_ | refine br_o ?_ | refine br_zn ?_ | refine br_on ?_ | refine nz2 ?_ | refine nz6 ?_ | refine nz32 ?_ | refine And.intro (by assumption) ?_))); (conv => whnf)
        have f1 : fq D (am_up D' 49 15 ((1 : Int32) <<< (nI i &&& 31))) := fq_tr hf (fq_up49 (by decide) fq_rf)
        have p1 : pm (am_up D' 49 15 ((1 : Int32) <<< (nI i &&& 31))) (vpl v) := by
          obtain ⟨x1, x2, x3, x4, x5, x6⟩ := hp
          refine ⟨?_, ?_, ?_, ?_, ?_, ?_⟩
          · rw [am_up_eq]; exact x1
          · rw [am_up_eq]; exact x2
          · rw [am_up_eq]; exact x3
          · rw [am_up_ne (by decide)]; exact x4
          · rw [am_up_ne (by decide), am_up_ne (by decide)]; exact x5
          · rw [am_up_ne (by decide)]; exact x6
        refine ⟨v, vpl v, but i, hv, im_fq hi f1, vpl_ok hv, p1, ?_, fun D2 r f2 t2 hr => ?_⟩
        · rw [am_up_eq]
          exact fun j hj => prx_but i (by omega) j hj
        have res := ih (i + 1) D2 (by omega) (fq_tr f1 (fq_fg f2)) (pm_fg p1 f2)
        rw [← nI_1] at res
        rcases hr with ⟨s1, rfl⟩ | ⟨s1, rfl⟩
        · (repeat ((conv => whnf); (first | refine zo0 ?_ | refine zo1 ?_ | refine br_z ?_ | refine br_o ?_ | refine br_zn ?_ | refine br_on ?_ | refine nz2 ?_ | refine nz6 ?_ | refine nz32 ?_ | refine And.intro (by assumption) ?_))); (conv => whnf)
          rw [mbits, Nat.zero_add, if_pos s1] at res
          exact res
        · (repeat ((conv => whnf); (first | refine zo0 ?_ | refine zo1 ?_ | refine br_z ?_ | refine br_o ?_ | refine br_zn ?_ | refine br_on ?_ | refine nz2 ?_ | refine nz6 ?_ | refine nz32 ?_ | refine And.intro (by assumption) ?_))); (conv => whnf)
          rw [or0]
          rw [mbits, Nat.zero_add, if_neg (by rw [s1]; decide)] at res
          exact res
    refine ⟨rfl, am_Wp_bl mfM_neverNow [8] 40 _ _ _ _ _ ?_⟩
    (repeat ((conv => whnf); (first | refine zo0 ?_ | refine zo1 ?_ | refine br_z ?_ | refine br_o ?_ | refine br_zn ?_ | refine br_on ?_ | refine nz2 ?_ | refine nz6 ?_ | refine nz32 ?_ | refine And.intro (by assumption) ?_))); (conv => whnf)
    refine ⟨v, hv, hi, fun D1 f1 r1 p1 n1 _ => ?_⟩
    (repeat ((conv => whnf); (first | refine zo0 ?_ | refine zo1 ?_ | refine br_z ?_ | refine br_o ?_ | refine br_zn ?_ | refine br_on ?_ | refine nz2 ?_ | refine nz6 ?_ | refine nz32 ?_ | refine And.intro (by assumption) ?_))); (conv => whnf)
    exact loop n 0 D1 (by omega) (fq_fa f1) p1
  · exact absurd h id
theorem clM_neverNow (l : Launch) : ∀ (a : Nat) (ins : Instr) (b dd : Nat), csM_neverNow[a]? = some (ins, b, dd) → am_Call l yM_neverNow.cls 7 ins b dd (fnM_neverNow a) := by
  intro a ins b dd h
  match a, h with
  | 0, h => cases h; exact am_callV (T := F_11) (N := 52) (okM_asTold l) wcM_asTold (am_m5 (i := 116) rfl rfl) wiM_asTold wsM_asTold inM rfl (by decide) (by decide +kernel) (by decide) (by decide)
  | 1, h => cases h; exact am_callV (T := F_11) (N := 52) (okM_isSeen l) wcM_isSeen (am_m6 (i := 41) rfl rfl) wiM_isSeen wsM_isSeen inM rfl (by decide) (by decide +kernel) (by decide) (by decide)
  | k + 2, h => simp [csM_neverNow] at h
theorem okM_neverNow (l : Launch) : am_Ok l yM_neverNow prog_13_method_69_code 3 (some .int) 7 spM_neverNow := am_ok_of (by decide +kernel) flM_ok kiM_ok klM_ok ckM_neverNow (clM_neverNow l) wpM_neverNow
def fnM_kindsBy : Nat → am_Sp := fun a => match a with
  | 0 => spM_asTold
  | 1 => spM_isSeen
  | _ => am_no
theorem mfM_kindsBy : ∀ a, am_mono (fnM_kindsBy a) := fun a => match a with
  | 0 => moM_asTold
  | 1 => moM_isSeen
  | _ + 2 => am_no_mono
def spM_kindsBy : am_Sp := fun as D L K => match as with
  | [.ref 49] => ∃ (v : vs_T), vok v ∧ im D v ∧ ∀ D', fq D D' → K (some (.int (aKinds v))) D' L
  | _ => False
theorem moM_kindsBy : am_mono spM_kindsBy := by
  intro as D L K K' hK h
  unfold spM_kindsBy at h ⊢
  split at h
  · obtain ⟨z0, z1, z2, hz⟩ := h
    exact ⟨z0, z1, z2, fun D' q => hK _ _ _ (hz D' q)⟩
  · exact h
theorem wpM_kindsBy : ∀ (as : List Value) (D : am_D) (L : am_L) (K : am_K), spM_kindsBy as D L K → am_fit 3 as = true ∧ am_Wp false 0 cdM_kindsBy fnM_kindsBy K 0 (am_lo 3 as) [] D L := by
  intro as D L K h
  unfold spM_kindsBy at h
  split at h
  · obtain ⟨v, hv, hi, hK⟩ := h
    have loop : ∀ (m i : Nat) (D' : am_D), i + m = 3 → fq D D' → D' 49 15 = 0 → (∃ P', pm D' P' ∧ ∀ b, pH P' b = pH (vpl v) b) → am_Wp false 0 cdM_kindsBy fnM_kindsBy K 8 [some (.ref 49), some (.int (mbits (fun h => mS v (pH (vpl v) h) allp) 0 i)), some (.int (nI i))] [] D' L := by
      intro m
      induction m with
      | zero =>
        intro i D' hi' hf h15 hp
        refine am_Wp_bl mfM_kindsBy [8] 40 _ _ _ _ _ ?_
        (repeat ((conv => whnf); (first | refine zo0 ?_ | refine zo1 ?_ | refine br_z ?_ | refine br_o ?_ | refine br_zn ?_ | refine br_on ?_ | refine nz2 ?_ | refine nz6 ?_ | refine nz32 ?_ | refine And.intro (by assumption) ?_))); (conv => whnf)
        refine ⟨fun h1 => ?_, fun h1 => absurd (nI_le (a := 3) (by omega) (by omega)) h1⟩
        (repeat ((conv => whnf); (first | refine zo0 ?_ | refine zo1 ?_ | refine br_z ?_ | refine br_o ?_ | refine br_zn ?_ | refine br_on ?_ | refine nz2 ?_ | refine nz6 ?_ | refine nz32 ?_ | refine And.intro (by assumption) ?_))); (conv => whnf)
        have k := hK D' hf
        rw [show i = 3 by omega]
        exact k
      | succ m ih =>
        intro i D' hi' hf h15 hp
        obtain ⟨P', hp1, hp2⟩ := hp
        refine am_Wp_bl mfM_kindsBy [8] 40 _ _ _ _ _ ?_
        (repeat ((conv => whnf); (first | refine zo0 ?_ | refine zo1 ?_ | refine br_z ?_ | refine br_o ?_ | refine br_zn ?_ | refine br_on ?_ | refine nz2 ?_ | refine nz6 ?_ | refine nz32 ?_ | refine And.intro (by assumption) ?_))); (conv => whnf)
        refine ⟨fun h1 => absurd h1 (nI_ge (b := 3) (by omega) (by omega)), fun h1 => ?_⟩
        (repeat ((conv => whnf); (first | refine zo0 ?_ | refine zo1 ?_ | refine br_z ?_ | refine br_o ?_ | refine br_zn ?_ | refine br_on ?_ | refine nz2 ?_ | refine nz6 ?_ | refine nz32 ?_ | refine And.intro (by assumption) ?_))); (conv => whnf)
        have f1 : fq D (am_up D' 49 13 (nI i)) := fq_tr hf (fq_up49 (by decide) fq_rf)
        have p1 := pm_H i hp1
        rw [hp2] at p1
        have z15 : am_up D' 49 13 (nI i) 49 15 = 0 := by rw [am_up_eq]; simp [upd, h15]
        refine ⟨v, pH (vpl v) i, allp, hv, im_fq hi f1, pH_ok (vpl_ok hv) (by omega), p1, by rw [z15]; exact prx_0, fun D2 r f2 t2 hr => ?_⟩
        have res := ih (i + 1) D2 (by omega) (fq_tr f1 (fq_fg f2)) (by rw [f2.2 15 (by omega)]; exact z15) ⟨_, pm_fg p1 f2, fun b => pH_H _ _ _⟩
        rw [← nI_1] at res
        rcases hr with ⟨s1, rfl⟩ | ⟨s1, rfl⟩
        · (repeat ((conv => whnf); (first | refine zo0 ?_ | refine zo1 ?_ | refine br_z ?_ | refine br_o ?_ | refine br_zn ?_ | refine br_on ?_ | refine nz2 ?_ | refine nz6 ?_ | refine nz32 ?_ | refine And.intro (by assumption) ?_))); (conv => whnf)
          rw [mbits, Nat.zero_add, if_pos s1] at res
          exact res
        · (repeat ((conv => whnf); (first | refine zo0 ?_ | refine zo1 ?_ | refine br_z ?_ | refine br_o ?_ | refine br_zn ?_ | refine br_on ?_ | refine nz2 ?_ | refine nz6 ?_ | refine nz32 ?_ | refine And.intro (by assumption) ?_))); (conv => whnf)
          rw [or0]
          rw [mbits, Nat.zero_add, if_neg (by rw [s1]; decide)] at res
          exact res
    refine ⟨rfl, am_Wp_bl mfM_kindsBy [8] 40 _ _ _ _ _ ?_⟩
    (repeat ((conv => whnf); (first | refine zo0 ?_ | refine zo1 ?_ | refine br_z ?_ | refine br_o ?_ | refine br_zn ?_ | refine br_on ?_ | refine nz2 ?_ | refine nz6 ?_ | refine nz32 ?_ | refine And.intro (by assumption) ?_))); (conv => whnf)
    refine ⟨v, hv, hi, fun D1 f1 r1 p1 n1 _ => ?_⟩
    (repeat ((conv => whnf); (first | refine zo0 ?_ | refine zo1 ?_ | refine br_z ?_ | refine br_o ?_ | refine br_zn ?_ | refine br_on ?_ | refine nz2 ?_ | refine nz6 ?_ | refine nz32 ?_ | refine And.intro (by assumption) ?_))); (conv => whnf)
    exact loop 3 0 D1 (by omega) (fq_fa f1) n1 ⟨vpl v, p1, fun _ => rfl⟩
  · exact absurd h id
theorem clM_kindsBy (l : Launch) : ∀ (a : Nat) (ins : Instr) (b dd : Nat), csM_kindsBy[a]? = some (ins, b, dd) → am_Call l yM_kindsBy.cls 7 ins b dd (fnM_kindsBy a) := by
  intro a ins b dd h
  match a, h with
  | 0, h => cases h; exact am_callV (T := F_11) (N := 52) (okM_asTold l) wcM_asTold (am_m5 (i := 116) rfl rfl) wiM_asTold wsM_asTold inM rfl (by decide) (by decide +kernel) (by decide) (by decide)
  | 1, h => cases h; exact am_callV (T := F_11) (N := 52) (okM_isSeen l) wcM_isSeen (am_m6 (i := 41) rfl rfl) wiM_isSeen wsM_isSeen inM rfl (by decide) (by decide +kernel) (by decide) (by decide)
  | k + 2, h => simp [csM_kindsBy] at h
theorem okM_kindsBy (l : Launch) : am_Ok l yM_kindsBy prog_13_method_73_code 3 (some .int) 7 spM_kindsBy := am_ok_of (by decide +kernel) flM_ok kiM_ok klM_ok ckM_kindsBy (clM_kindsBy l) wpM_kindsBy
def fnM_numbersBy : Nat → am_Sp := fun a => match a with
  | 0 => spM_asTold
  | 1 => spM_isSeen
  | _ => am_no
theorem mfM_numbersBy : ∀ a, am_mono (fnM_numbersBy a) := fun a => match a with
  | 0 => moM_asTold
  | 1 => moM_isSeen
  | _ + 2 => am_no_mono
theorem pm_W {D : am_D} {P : mw_T} {d : Nat} (x : Nat) (hp : pm D P) : pm (am_up D 59 d (nI x)) (pW P d x) := by
  obtain ⟨p1, p2, p3, p4, p5, p6⟩ := hp
  refine ⟨?_, ?_, ?_, ?_, fun i hi => ?_, ?_⟩
  · rw [am_up_ne (by decide)]; exact p1
  · rw [am_up_ne (by decide)]; exact p2
  · rw [am_up_ne (by decide)]; exact p3
  · rw [am_up_ne (by decide)]; exact p4
  · refine ⟨?_, by rw [am_up_ne (by decide)]; exact (p5 i hi).2⟩
    rw [am_up_eq]
    unfold upd pW up2
    by_cases h : i = d
    · simp [h]
    · simp [h, (p5 i hi).1]
  · rw [am_up_ne (by decide)]; exact p6
theorem pW_W (P : mw_T) (d a b : Nat) : pW (pW P d a) d b = pW P d b := by
  funext c i
  unfold pW up2
  by_cases h : c = 1
  · subst h
    by_cases hi : i = d <;> simp [hi]
  · simp [h]
def spM_numbersBy : am_Sp := fun as D L K => match as with
  | [.ref 49, .int y] => ∃ (v : vs_T) (d : Nat), vok v ∧ im D v ∧ y = nI d ∧ d < 12 ∧ ∀ D', fq D D' → K (some (.int (aNumbers v d))) D' L
  | _ => False
theorem moM_numbersBy : am_mono spM_numbersBy := by
  intro as D L K K' hK h
  unfold spM_numbersBy at h ⊢
  split at h
  · obtain ⟨z0, z1, z2, z3, z4, z5, hz⟩ := h
    exact ⟨z0, z1, z2, z3, z4, z5, fun D' q => hK _ _ _ (hz D' q)⟩
  · exact h
theorem wpM_numbersBy : ∀ (as : List Value) (D : am_D) (L : am_L) (K : am_K), spM_numbersBy as D L K → am_fit 4 as = true ∧ am_Wp false 0 cdM_numbersBy fnM_numbersBy K 0 (am_lo 4 as) [] D L := by
  intro as D L K h
  unfold spM_numbersBy at h
  split at h
  · obtain ⟨v, d, hv, hi, rfl, hd, hK⟩ := h
    have ec : (nI d).toNatClampNeg = d := nI_clamp (by omega)
    have hin : vp_in (nI d) 12 := vp_in_nI (by omega) (by decide)
    have loop : ∀ (m i : Nat) (D' : am_D), i + m = 6 → fq D D' → D' 49 15 = 0 → (∃ P', pm D' P' ∧ ∀ b, pW P' d b = pW (vpl v) d b) → am_Wp false 0 cdM_numbersBy fnM_numbersBy K 8 [some (.ref 49), some (.int (nI d)), some (.int (mbits (fun x => mS v (pW (vpl v) d x) allp) 0 i)), some (.int (nI i))] [] D' L := by
      intro m
      induction m with
      | zero =>
        intro i D' hi' hf h15 hp
        refine am_Wp_bl mfM_numbersBy [8] 40 _ _ _ _ _ ?_
        (repeat ((conv => whnf); (first | refine zo0 ?_ | refine zo1 ?_ | refine br_z ?_ | refine br_o ?_ | refine br_zn ?_ | refine br_on ?_ | refine nz2 ?_ | refine nz6 ?_ | refine nz32 ?_ | refine And.intro (by assumption) ?_))); (conv => whnf)
        refine ⟨fun h1 => ?_, fun h1 => absurd (nI_le (a := 6) (by omega) (by omega)) h1⟩
        (repeat ((conv => whnf); (first | refine zo0 ?_ | refine zo1 ?_ | refine br_z ?_ | refine br_o ?_ | refine br_zn ?_ | refine br_on ?_ | refine nz2 ?_ | refine nz6 ?_ | refine nz32 ?_ | refine And.intro (by assumption) ?_))); (conv => whnf)
        have k := hK D' hf
        rw [show i = 6 by omega]
        exact k
      | succ m ih =>
        intro i D' hi' hf h15 hp
        obtain ⟨P', hp1, hp2⟩ := hp
        refine am_Wp_bl mfM_numbersBy [8] 40 _ _ _ _ _ ?_
        (repeat ((conv => whnf); (first | refine zo0 ?_ | refine zo1 ?_ | refine br_z ?_ | refine br_o ?_ | refine br_zn ?_ | refine br_on ?_ | refine nz2 ?_ | refine nz6 ?_ | refine nz32 ?_ | refine And.intro (by assumption) ?_))); (conv => whnf)
        refine ⟨fun h1 => absurd h1 (nI_ge (b := 6) (by omega) (by omega)), fun h1 => ?_⟩
        (repeat ((conv => whnf); (first | refine zo0 ?_ | refine zo1 ?_ | refine br_z ?_ | refine br_o ?_ | refine br_zn ?_ | refine br_on ?_ | refine nz2 ?_ | refine nz6 ?_ | refine nz32 ?_ | refine And.intro (by assumption) ?_))); (conv => whnf)
        rw [ec]
        have f1 : fq D (am_up D' 59 d (nI i)) := fq_tr hf (fq_up (by decide) fq_rf)
        have p1 := pm_W (d := d) i hp1
        rw [hp2] at p1
        have z15 : am_up D' 59 d (nI i) 49 15 = 0 := by rw [am_up_ne (by decide)]; exact h15
        refine ⟨v, pW (vpl v) d i, allp, hv, im_fq hi f1, pW_ok (vpl_ok hv) (by omega), p1, by rw [z15]; exact prx_0, fun D2 r f2 t2 hr => ?_⟩
        have res := ih (i + 1) D2 (by omega) (fq_tr f1 (fq_fg f2)) (by rw [f2.2 15 (by omega)]; exact z15) ⟨_, pm_fg p1 f2, fun b => pW_W _ _ _ _⟩
        rw [← nI_1] at res
        rcases hr with ⟨s1, rfl⟩ | ⟨s1, rfl⟩
        · (repeat ((conv => whnf); (first | refine zo0 ?_ | refine zo1 ?_ | refine br_z ?_ | refine br_o ?_ | refine br_zn ?_ | refine br_on ?_ | refine nz2 ?_ | refine nz6 ?_ | refine nz32 ?_ | refine And.intro (by assumption) ?_))); (conv => whnf)
          rw [mbits, Nat.zero_add, if_pos s1] at res
          exact res
        · (repeat ((conv => whnf); (first | refine zo0 ?_ | refine zo1 ?_ | refine br_z ?_ | refine br_o ?_ | refine br_zn ?_ | refine br_on ?_ | refine nz2 ?_ | refine nz6 ?_ | refine nz32 ?_ | refine And.intro (by assumption) ?_))); (conv => whnf)
          rw [or0]
          rw [mbits, Nat.zero_add, if_neg (by rw [s1]; decide)] at res
          exact res
    refine ⟨rfl, am_Wp_bl mfM_numbersBy [8] 40 _ _ _ _ _ ?_⟩
    (repeat ((conv => whnf); (first | refine zo0 ?_ | refine zo1 ?_ | refine br_z ?_ | refine br_o ?_ | refine br_zn ?_ | refine br_on ?_ | refine nz2 ?_ | refine nz6 ?_ | refine nz32 ?_ | refine And.intro (by assumption) ?_))); (conv => whnf)
    refine ⟨v, hv, hi, fun D1 f1 r1 p1 n1 _ => ?_⟩
    (repeat ((conv => whnf); (first | refine zo0 ?_ | refine zo1 ?_ | refine br_z ?_ | refine br_o ?_ | refine br_zn ?_ | refine br_on ?_ | refine nz2 ?_ | refine nz6 ?_ | refine nz32 ?_ | refine And.intro (by assumption) ?_))); (conv => whnf)
    exact loop 6 0 D1 (by omega) (fq_fa f1) n1 ⟨vpl v, p1, fun _ => rfl⟩
  · exact absurd h id
theorem clM_numbersBy (l : Launch) : ∀ (a : Nat) (ins : Instr) (b dd : Nat), csM_numbersBy[a]? = some (ins, b, dd) → am_Call l yM_numbersBy.cls 7 ins b dd (fnM_numbersBy a) := by
  intro a ins b dd h
  match a, h with
  | 0, h => cases h; exact am_callV (T := F_11) (N := 52) (okM_asTold l) wcM_asTold (am_m5 (i := 116) rfl rfl) wiM_asTold wsM_asTold inM rfl (by decide) (by decide +kernel) (by decide) (by decide)
  | 1, h => cases h; exact am_callV (T := F_11) (N := 52) (okM_isSeen l) wcM_isSeen (am_m6 (i := 41) rfl rfl) wiM_isSeen wsM_isSeen inM rfl (by decide) (by decide +kernel) (by decide) (by decide)
  | k + 2, h => simp [csM_numbersBy] at h
theorem okM_numbersBy (l : Launch) : am_Ok l yM_numbersBy prog_13_method_71_code 4 (some .int) 7 spM_numbersBy := am_ok_of (by decide +kernel) flM_ok kiM_ok klM_ok ckM_numbersBy (clM_numbersBy l) wpM_numbersBy
