def fnM_runsBy : Nat → am_Sp := fun a => match a with
  | 0 => spM_goesBy
  | _ => am_no
theorem mfM_runsBy : ∀ a, am_mono (fnM_runsBy a) := fun a => match a with
  | 0 => moM_goesBy
  | _ + 1 => am_no_mono
def mrec (D : am_D) (P E : mw_T) (pr : Nat → Bool) (n : Nat) : Prop :=
  (∀ s, s < n → D 65 s = nI (mw_run P E pr (s + 1) 0 0) ∧ D 66 s = nI (mw_run P E pr (s + 1) 0 1) ∧ D 67 s = nI (mw_run P E pr (s + 1) 0 3) ∧ D 68 s = nI (mw_run P E pr (s + 1) 0 4) ∧ D 69 s = nI (mw_run P E pr (s + 1) 0 7)) ∧
  (∀ d, d < 12 → D 64 d = mw_done P E pr d n) ∧ D 49 28 = mw_over P E pr n
def spM_runsBy : am_Sp := fun as D L K => match as with
  | [.ref 49, .int x] => ∃ (P E : mw_T) (pr : Nat → Bool) (n : Nat), x = nI n ∧ n < 48 ∧ mw_pok P ∧ mw_eok E ∧ pm D P ∧ em D E ∧ prx (D 49 15) pr ∧ ∀ (D' : am_D) (g : Int32), fg D D' → wm D' (mw_run P E pr (n + 1)) g → mrec D' P E pr (n + 1) → K none D' L
  | _ => False
theorem moM_runsBy : am_mono spM_runsBy := by
  intro as D L K K' hK h
  unfold spM_runsBy at h ⊢
  split at h
  · obtain ⟨P, E, pr, n, h1, h2, h3, h4, h5, h6, h7, h8⟩ := h
    exact ⟨P, E, pr, n, h1, h2, h3, h4, h5, h6, h7, fun D' g q1 q2 q3 => hK _ _ _ (h8 D' g q1 q2 q3)⟩
  · exact h
theorem wpM_runsBy : ∀ (as : List Value) (D : am_D) (L : am_L) (K : am_K), spM_runsBy as D L K → am_fit 3 as = true ∧ am_Wp false 0 cdM_runsBy fnM_runsBy K 0 (am_lo 3 as) [] D L := by
  intro as D L K h
  unfold spM_runsBy at h
  split at h
  · rename_i x
    obtain ⟨P, E, pr, n, rfl, hn, hP, hE, hpm, hem, hpr, hK⟩ := h
    -- the minutes
    have mins : ∀ (m i : Nat) (D' : am_D) (g : Int32), i + m = n + 1 → fg D D' → wm D' (mw_run P E pr i) g → mrec D' P E pr i → am_Wp false 0 cdM_runsBy fnM_runsBy K 114 [some (.ref 49), some (.int (nI n)), some (.int (nI i))] [] D' L := by
      intro m
      induction m with
      | zero =>
        intro i D' g hi hf hw hy
        refine am_Wp_bl mfM_runsBy [114] 20 _ _ _ _ _ ?_
        (repeat ((conv => whnf); (first | refine zo0 ?_ | refine zo1 ?_ | refine br_z ?_ | refine br_o ?_ | refine br_zn ?_ | refine br_on ?_ | refine nz2 ?_ | refine nz6 ?_ | refine nz32 ?_ | refine And.intro (by assumption) ?_))); (conv => whnf)
        refine ⟨fun h1 => ?_, fun h1 => absurd (nI_lt (by omega) (by omega)) h1⟩
        (repeat ((conv => whnf); (first | refine zo0 ?_ | refine zo1 ?_ | refine br_z ?_ | refine br_o ?_ | refine br_zn ?_ | refine br_on ?_ | refine nz2 ?_ | refine nz6 ?_ | refine nz32 ?_ | refine And.intro (by assumption) ?_))); (conv => whnf)
        rw [show i = n + 1 by omega] at hw hy
        exact hK D' g hf hw hy
      | succ m ih =>
        intro i D' g hi hf hw hy
        refine am_Wp_bl mfM_runsBy [114] 20 _ _ _ _ _ ?_
        (repeat ((conv => whnf); (first | refine zo0 ?_ | refine zo1 ?_ | refine br_z ?_ | refine br_o ?_ | refine br_zn ?_ | refine br_on ?_ | refine nz2 ?_ | refine nz6 ?_ | refine nz32 ?_ | refine And.intro (by assumption) ?_))); (conv => whnf)
        refine ⟨fun h1 => absurd h1 (nI_nlt (by omega) (by omega)), fun h1 => ?_⟩
        (repeat ((conv => whnf); (first | refine zo0 ?_ | refine zo1 ?_ | refine br_z ?_ | refine br_o ?_ | refine br_zn ?_ | refine br_on ?_ | refine nz2 ?_ | refine nz6 ?_ | refine nz32 ?_ | refine And.intro (by assumption) ?_))); (conv => whnf)
        refine ⟨P, E, mw_run P E pr i, pr, i, rfl, by omega, hP, hE, mw_run_ok hP hE i, pm_fg hpm hf, em_fg hem hf, by rw [hf.2 15 (by omega)]; exact hpr, ⟨g, hw⟩, fun D1 g1 hn1 hw1 => ?_⟩
        obtain ⟨n1, n2, n3, n4, n5⟩ := hn1
        obtain ⟨y1, y2, y3⟩ := hy
        (repeat ((conv => whnf); (first | refine zo0 ?_ | refine zo1 ?_ | refine br_z ?_ | refine br_o ?_ | refine br_zn ?_ | refine br_on ?_ | refine nz2 ?_ | refine nz6 ?_ | refine nz32 ?_ | refine And.intro (by assumption) ?_))); (conv => whnf)
        rw [nI_1]
        refine ih (i + 1) D1 g1 (by omega) (fg_tr hf n1) hw1 ⟨fun s hs => ?_, fun d hd => ?_, ?_⟩
        · by_cases es : s = i
          · rw [es]; exact n4
          · have := n3 s es
            rw [this.1, this.2.1, this.2.2.1, this.2.2.2.1, this.2.2.2.2]
            exact y1 s (by omega)
        · rw [n5 d hd, y2 d hd]; rfl
        · rw [n2, y3]; rfl
    -- the doors
    have doors : ∀ (m i : Nat) (D' : am_D), i + m = 12 → fg D D' → (D' 49 16 = 0 ∧ D' 49 17 = 0 ∧ D' 49 18 = 0 ∧ D' 49 19 = 0 ∧ D' 49 20 = nI (P 0 3) ∧ D' 49 21 = 0 ∧ D' 49 22 = 0 ∧ D' 49 24 = 0 ∧ D' 49 25 = 0 ∧ D' 49 26 = 0 ∧ D' 49 27 = 0 ∧ D' 49 28 = -1) → (∀ d, d < i → D' 61 d = 0 ∧ D' 62 d = 0 ∧ D' 63 d = nI (P 2 d) ∧ D' 64 d = -1) → am_Wp false 0 cdM_runsBy fnM_runsBy K 67 [some (.ref 49), some (.int (nI n)), some (.int (nI i))] [] D' L := by
      intro m
      induction m with
      | zero =>
        intro i D' hi hf hs hd
        refine am_Wp_bl mfM_runsBy [67, 114] 20 _ _ _ _ _ ?_
        (repeat ((conv => whnf); (first | refine zo0 ?_ | refine zo1 ?_ | refine br_z ?_ | refine br_o ?_ | refine br_zn ?_ | refine br_on ?_ | refine nz2 ?_ | refine nz6 ?_ | refine nz32 ?_ | refine And.intro (by assumption) ?_))); (conv => whnf)
        refine ⟨fun h1 => ?_, fun h1 => absurd (nI_le (a := 12) (by omega) (by omega)) h1⟩
        (repeat ((conv => whnf); (first | refine zo0 ?_ | refine zo1 ?_ | refine br_z ?_ | refine br_o ?_ | refine br_zn ?_ | refine br_on ?_ | refine nz2 ?_ | refine nz6 ?_ | refine nz32 ?_ | refine And.intro (by assumption) ?_))); (conv => whnf)
        refine mins (n + 1) 0 D' (D' 49 23) (by omega) hf ⟨fun d hq => ?_, ?_⟩ ⟨fun s hs => absurd hs (by omega), fun d hq => (hd d (by omega)).2.2.2, hs.2.2.2.2.2.2.2.2.2.2.2⟩
        · have := hd d (by omega)
          simp [mw_run, mw_w0, nI_0, this.1, this.2.1, this.2.2.1]
        · obtain ⟨s1, s2, s3, s4, s5, s6, s7, s8, s9, s10, s11, s12⟩ := hs
          refine ⟨?_, ?_, ?_, ?_, ?_, ?_, ?_, ?_, ?_, ?_, ?_, ?_⟩ <;> simp [mw_run, mw_w0, nI_0, s1, s2, s3, s4, s5, s6, s7, s8, s9, s10, s11]
      | succ m ih =>
        intro i D' hi hf hs hd
        have ec : (nI i).toNatClampNeg = i := nI_clamp (by omega)
        have hin : vp_in (nI i) 12 := vp_in_nI (by omega) (by decide)
        have x53 : D' 53 i = nI (P 2 i) := by rw [hf.1 53 (by decide) (by omega)]; exact (hpm.2.2.2.2.1 i (by omega)).2
        refine am_Wp_bl mfM_runsBy [67] 60 _ _ _ _ _ ?_
        (repeat ((conv => whnf); (first | refine zo0 ?_ | refine zo1 ?_ | refine br_z ?_ | refine br_o ?_ | refine br_zn ?_ | refine br_on ?_ | refine nz2 ?_ | refine nz6 ?_ | refine nz32 ?_ | refine And.intro (by assumption) ?_))); (conv => whnf)
        refine ⟨fun h1 => absurd h1 (nI_ge (b := 12) (by omega) (by omega)), fun h1 => ?_⟩
        (repeat ((conv => whnf); (first | refine zo0 ?_ | refine zo1 ?_ | refine br_z ?_ | refine br_o ?_ | refine br_zn ?_ | refine br_on ?_ | refine nz2 ?_ | refine nz6 ?_ | refine nz32 ?_ | refine And.intro (by assumption) ?_))); (conv => whnf)
        rw [ec, nI_1]
        have u53 : am_up (am_up D' 61 i 0) 62 i 0 53 = D' 53 := by rw [am_up_ne (by decide), am_up_ne (by decide)]
        rw [u53, x53]
        refine ih (i + 1) _ (by omega) (fg_upA (by decide) (by decide) (fg_upA (by decide) (by decide) (fg_upA (by decide) (by decide) (fg_upA (by decide) (by decide) hf)))) ?_ (fun d hq => ?_)
        · rw [am_up_ne (by decide), am_up_ne (by decide), am_up_ne (by decide), am_up_ne (by decide)]
          exact hs
        · by_cases ed : d = i
          · subst ed
            simp [am_up, upd]
          · have := hd d (by omega)
            simp [am_up, upd, ed, this]
    have hin2 : vp_in (2 : Int32) 3 := by rw [← nc2]; exact vp_in_nI (by decide) (by decide)
    have cl2 : (2 : Int32).toNatClampNeg = 2 := by decide +kernel
    refine ⟨rfl, am_Wp_bl mfM_runsBy [67] 80 _ _ _ _ _ ?_⟩
    (repeat ((conv => whnf); (first | refine zo0 ?_ | refine zo1 ?_ | refine br_z ?_ | refine br_o ?_ | refine br_zn ?_ | refine br_on ?_ | refine nz2 ?_ | refine nz6 ?_ | refine nz32 ?_ | refine And.intro (by assumption) ?_))); (conv => whnf)
    refine doors 12 0 _ (by omega) (by repeat (first | exact fg_rf | refine fg_up (by decide) (by decide) ?_)) ?_ (fun d hd => absurd hd (by omega))
    have e55 : D 55 2 = nI (P 0 3) := hpm.2.2.2.1
    refine ⟨?_, ?_, ?_, ?_, ?_, ?_, ?_, ?_, ?_, ?_, ?_, ?_⟩ <;> simp [am_up, upd, cl2, e55]
  · exact absurd h id
theorem clM_runsBy (l : Launch) : ∀ (a : Nat) (ins : Instr) (b dd : Nat), csM_runsBy[a]? = some (ins, b, dd) → am_Call l yM_runsBy.cls 4 ins b dd (fnM_runsBy a) := by
  intro a ins b dd h
  match a, h with
  | 0, h => cases h; exact am_callV (T := F_11) (N := 52) (okM_goesBy l) wcM_goesBy (am_m5 (i := 128) rfl rfl) wiM_goesBy wsM_goesBy inM rfl (by decide) (by decide +kernel) (by decide) (by decide)
  | k + 1, h => simp [csM_runsBy] at h
theorem okM_runsBy (l : Launch) : am_Ok l yM_runsBy prog_13_method_37_code 3 none 4 spM_runsBy := am_ok_of (by decide +kernel) flM_ok kiM_ok klM_ok ckM_runsBy (clM_runsBy l) wpM_runsBy
