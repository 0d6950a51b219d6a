/-! the digest -/
def dgs (f : Nat → Int64) (h : Int64) : Nat → Int64
  | 0 => h
  | k + 1 => 31 * dgs f h k + f k
theorem dgs_0 (f : Nat → Int64) (h : Int64) : dgs f h 0 = h := rfl
theorem dgs_s (f : Nat → Int64) (h : Int64) (k : Nat) : dgs f h (k + 1) = 31 * dgs f h k + f k := rfl
def dgDoor (v : vs_T) (h : Int64) (d : Nat) : Int64 :=
  31 * (31 * (31 * (31 * (dgs (fun c => (nI (va v 31 (c + 1) d)).toInt64) (dgs (fun c => (nI (va v 9 (c + 1) d)).toInt64) (31 * (31 * h + (nI (vpl v 1 d)).toInt64) + (nI (vpl v 2 d)).toInt64) 3) 3) + (aDone v d).toInt64) + (aNumbers v d).toInt64) + aCh v 5 d 0) + aCh v 5 d 1
def dgPlan (v : vs_T) (h : Int64) : Int64 :=
  31 * (31 * (dgs (fun c => (swI (aSwap v) c).toInt64) (dgs (fun c => (pI (aFit v) c).toInt64) (dgs (fun c => (pI (aBetter v) c).toInt64) h 3) 3) 4) + (spN (aSpare v)).toInt64) + (spI (aSpare v) 0).toInt64
def dgRnd (v : vs_T) (i : Nat) : Int32 := if i < vpl v 0 0 then nI (vpl v 3 i) else -1
def dg1 (v : vs_T) : Int64 := dgs (fun k => (qCount v (nI k)).toInt64) 17 8
def dg2 (v : vs_T) : Int64 := dgs (fun t => (vfI (vflt v t)).toInt64) (dg1 v) 3
def dg3 (v : vs_T) : Int64 := dgs (fun i => (dgRnd v i).toInt64) (dg2 v) 24
def dgm (v : vs_T) (h : Int64) : Nat → Int64
  | 0 => h
  | t + 1 => dgs (fun c => (nI (va v (t + 1) 0 (atIx c))).toInt64) (dgm v h t) 5
def dg4 (v : vs_T) : Int64 := dgm v (dg3 v) 48
def dgd (v : vs_T) (h : Int64) : Nat → Int64
  | 0 => h
  | d + 1 => dgDoor v (dgd v h d) d
def dg5 (v : vs_T) : Int64 := dgd v (dg4 v) 12
def dg6 (v : vs_T) : Int64 := dgs (fun c => (nI (va v 48 0 (suIx c))).toInt64) (dg5 v) 5
def dg7 (v : vs_T) : Int64 := 31 * (31 * dg6 v + (aOver v).toInt64) + (mw_lk (vpl v) (va v 48) 12).toInt64
def qDigest (v : vs_T) : Int64 := 31 * (31 * (31 * (31 * (31 * (31 * dgPlan v (dg7 v) + (aNever v).toInt64) + (aKinds v).toInt64) + (aRooms v).toInt64) + (aAsk v).toInt64) + (aMorn v 7 9 0).toInt64) + (aMorn v 7 9 1).toInt64
def fnM_doorDigest : Nat → am_Sp := fun a => match a with
  | 0 => spM_toldOf
  | 1 => spM_doorOf
  | 2 => spM_doneOf
  | 3 => spM_numbersBy
  | 4 => spM_chanceOf
  | _ => am_no
theorem mfM_doorDigest : ∀ a, am_mono (fnM_doorDigest a) := fun a => match a with
  | 0 => moM_toldOf
  | 1 => moM_doorOf
  | 2 => moM_doneOf
  | 3 => moM_numbersBy
  | 4 => moM_chanceOf
  | _ + 5 => am_no_mono
def spM_doorDigest : am_Sp := fun as D L K => match as with
  | [.ref 49, .long x, .int y] => ∃ (v : vs_T) (d : Nat), vok v ∧ im D v ∧ y = nI d ∧ d < 12 ∧ ∀ D', fq D D' → K (some (.long (dgDoor v x d))) D' L
  | _ => False
theorem moM_doorDigest : am_mono spM_doorDigest := by
  intro as D L K K' hK h
  unfold spM_doorDigest at h ⊢
  split at h
  · obtain ⟨z0, z1, z2, z3, z4, z5, hz⟩ := h
    exact ⟨z0, z1, z2, z3, z4, z5, fun D' q => hK _ _ _ (hz D' q)⟩
  · exact h
theorem wpM_doorDigest : ∀ (as : List Value) (D : am_D) (L : am_L) (K : am_K), spM_doorDigest as D L K → am_fit 7 as = true ∧ am_Wp false 0 cdM_doorDigest fnM_doorDigest K 0 (am_lo 7 as) [] D L := by
  intro as D L K h
  unfold spM_doorDigest at h
  split at h
  · rename_i x y
    obtain ⟨v, d, hv, hi, rfl, hd, hK⟩ := h
    have fin : ∀ (D' : am_D) (k6 : Option Value), fq D D' → am_Wp false 0 cdM_doorDigest fnM_doorDigest K 99 [some (.ref 49), some (.long x), none, some (.int (nI d)), some (.long (dgs (fun c => (nI (va v 31 (c + 1) d)).toInt64) (dgs (fun c => (nI (va v 9 (c + 1) d)).toInt64) (31 * (31 * x + (nI (vpl v 1 d)).toInt64) + (nI (vpl v 2 d)).toInt64) 3) 3)), none, k6] [] D' L := by
      intro D' k6 hf
      refine am_Wp_bl mfM_doorDigest [] 80 _ _ _ _ _ ?_
      (repeat ((conv => whnf); (first | refine zo0 ?_ | refine zo1 ?_ | refine br_z ?_ | refine br_o ?_ | refine br_zn ?_ | refine br_on ?_ | refine nz2 ?_ | refine nz6 ?_ | refine nz32 ?_ | refine And.intro (by assumption) ?_))); (conv => whnf)
      refine ⟨v, d, hv, im_fq hi hf, rfl, hd, fun D1 f1 => ?_⟩
      have g1 := fq_tr hf f1
      (repeat ((conv => whnf); (first | refine zo0 ?_ | refine zo1 ?_ | refine br_z ?_ | refine br_o ?_ | refine br_zn ?_ | refine br_on ?_ | refine nz2 ?_ | refine nz6 ?_ | refine nz32 ?_ | refine And.intro (by assumption) ?_))); (conv => whnf)
      refine ⟨v, d, hv, im_fq hi g1, rfl, hd, fun D2 f2 => ?_⟩
      have g2 := fq_tr g1 f2
      (repeat ((conv => whnf); (first | refine zo0 ?_ | refine zo1 ?_ | refine br_z ?_ | refine br_o ?_ | refine br_zn ?_ | refine br_on ?_ | refine nz2 ?_ | refine nz6 ?_ | refine nz32 ?_ | refine And.intro (by assumption) ?_))); (conv => whnf)
      refine ⟨v, 5, d, 0, hv, im_fq hi g2, by decide +kernel, by decide, rfl, hd, by decide +kernel, by decide, fun D3 f3 => ?_⟩
      have g3 := fq_tr g2 f3
      (repeat ((conv => whnf); (first | refine zo0 ?_ | refine zo1 ?_ | refine br_z ?_ | refine br_o ?_ | refine br_zn ?_ | refine br_on ?_ | refine nz2 ?_ | refine nz6 ?_ | refine nz32 ?_ | refine And.intro (by assumption) ?_))); (conv => whnf)
      refine ⟨v, 5, d, 1, hv, im_fq hi g3, by decide +kernel, by decide, rfl, hd, by decide +kernel, by decide, fun D4 f4 => ?_⟩
      have g4 := fq_tr g3 f4
      (repeat ((conv => whnf); (first | refine zo0 ?_ | refine zo1 ?_ | refine br_z ?_ | refine br_o ?_ | refine br_zn ?_ | refine br_on ?_ | refine nz2 ?_ | refine nz6 ?_ | refine nz32 ?_ | refine And.intro (by assumption) ?_))); (conv => whnf)
      exact hK D4 g4
    have lb : ∀ (m i : Nat) (D' : am_D), i + m = 3 → fq D D' → am_Wp false 0 cdM_doorDigest fnM_doorDigest K 68 [some (.ref 49), some (.long x), none, some (.int (nI d)), some (.long (dgs (fun c => (nI (va v 31 (c + 1) d)).toInt64) (dgs (fun c => (nI (va v 9 (c + 1) d)).toInt64) (31 * (31 * x + (nI (vpl v 1 d)).toInt64) + (nI (vpl v 2 d)).toInt64) 3) i)), none, some (.int (nI i))] [] D' L := by
      intro m
      induction m with
      | zero =>
        intro i D' hm hf
        refine am_Wp_bl mfM_doorDigest [68, 99] 40 _ _ _ _ _ ?_
        (repeat ((conv => whnf); (first | refine zo0 ?_ | refine zo1 ?_ | refine br_z ?_ | refine br_o ?_ | refine br_zn ?_ | refine br_on ?_ | refine nz2 ?_ | refine nz6 ?_ | refine nz32 ?_ | refine And.intro (by assumption) ?_))); (conv => whnf)
        refine ⟨fun h1 => ?_, fun h1 => absurd (nI_le (a := 3) (by omega) (by omega)) h1⟩
        (repeat ((conv => whnf); (first | refine zo0 ?_ | refine zo1 ?_ | refine br_z ?_ | refine br_o ?_ | refine br_zn ?_ | refine br_on ?_ | refine nz2 ?_ | refine nz6 ?_ | refine nz32 ?_ | refine And.intro (by assumption) ?_))); (conv => whnf)
        rw [show i = 3 by omega]
        exact fin D' _ hf
      | succ m ih =>
        intro i D' hm hf
        refine am_Wp_bl mfM_doorDigest [68, 99] 60 _ _ _ _ _ ?_
        (repeat ((conv => whnf); (first | refine zo0 ?_ | refine zo1 ?_ | refine br_z ?_ | refine br_o ?_ | refine br_zn ?_ | refine br_on ?_ | refine nz2 ?_ | refine nz6 ?_ | refine nz32 ?_ | refine And.intro (by assumption) ?_))); (conv => whnf)
        refine ⟨fun h1 => absurd h1 (nI_ge (b := 3) (by omega) (by omega)), fun h1 => ?_⟩
        (repeat ((conv => whnf); (first | refine zo0 ?_ | refine zo1 ?_ | refine br_z ?_ | refine br_o ?_ | refine br_zn ?_ | refine br_on ?_ | refine nz2 ?_ | refine nz6 ?_ | refine nz32 ?_ | refine And.intro (by assumption) ?_))); (conv => whnf)
        have hi' := im_fq hi hf
        refine ⟨v, 30, d, i, hv, hi', by decide +kernel, by decide, rfl, hd, rfl, by omega, fun D1 f1 => ?_⟩
        (repeat ((conv => whnf); (first | refine zo0 ?_ | refine zo1 ?_ | refine br_z ?_ | refine br_o ?_ | refine br_zn ?_ | refine br_on ?_ | refine nz2 ?_ | refine nz6 ?_ | refine nz32 ?_ | refine And.intro (by assumption) ?_))); (conv => whnf)
        rw [nI_1]
        exact ih (i + 1) D1 (by omega) (fq_tr hf f1)
    have la : ∀ (m i : Nat) (D' : am_D), i + m = 3 → fq D D' → am_Wp false 0 cdM_doorDigest fnM_doorDigest K 34 [some (.ref 49), some (.long x), none, some (.int (nI d)), some (.long (dgs (fun c => (nI (va v 9 (c + 1) d)).toInt64) (31 * (31 * x + (nI (vpl v 1 d)).toInt64) + (nI (vpl v 2 d)).toInt64) i)), none, some (.int (nI i))] [] D' L := by
      intro m
      induction m with
      | zero =>
        intro i D' hm hf
        refine am_Wp_bl mfM_doorDigest [34, 68] 40 _ _ _ _ _ ?_
        (repeat ((conv => whnf); (first | refine zo0 ?_ | refine zo1 ?_ | refine br_z ?_ | refine br_o ?_ | refine br_zn ?_ | refine br_on ?_ | refine nz2 ?_ | refine nz6 ?_ | refine nz32 ?_ | refine And.intro (by assumption) ?_))); (conv => whnf)
        refine ⟨fun h1 => ?_, fun h1 => absurd (nI_le (a := 3) (by omega) (by omega)) h1⟩
        (repeat ((conv => whnf); (first | refine zo0 ?_ | refine zo1 ?_ | refine br_z ?_ | refine br_o ?_ | refine br_zn ?_ | refine br_on ?_ | refine nz2 ?_ | refine nz6 ?_ | refine nz32 ?_ | refine And.intro (by assumption) ?_))); (conv => whnf)
        rw [show i = 3 by omega]
        exact lb 3 0 D' (by omega) hf
      | succ m ih =>
        intro i D' hm hf
        refine am_Wp_bl mfM_doorDigest [34, 68] 60 _ _ _ _ _ ?_
        (repeat ((conv => whnf); (first | refine zo0 ?_ | refine zo1 ?_ | refine br_z ?_ | refine br_o ?_ | refine br_zn ?_ | refine br_on ?_ | refine nz2 ?_ | refine nz6 ?_ | refine nz32 ?_ | refine And.intro (by assumption) ?_))); (conv => whnf)
        refine ⟨fun h1 => absurd h1 (nI_ge (b := 3) (by omega) (by omega)), fun h1 => ?_⟩
        (repeat ((conv => whnf); (first | refine zo0 ?_ | refine zo1 ?_ | refine br_z ?_ | refine br_o ?_ | refine br_zn ?_ | refine br_on ?_ | refine nz2 ?_ | refine nz6 ?_ | refine nz32 ?_ | refine And.intro (by assumption) ?_))); (conv => whnf)
        have hi' := im_fq hi hf
        refine ⟨v, 8, d, i, hv, hi', by decide +kernel, by decide, rfl, hd, rfl, by omega, fun D1 f1 => ?_⟩
        (repeat ((conv => whnf); (first | refine zo0 ?_ | refine zo1 ?_ | refine br_z ?_ | refine br_o ?_ | refine br_zn ?_ | refine br_on ?_ | refine nz2 ?_ | refine nz6 ?_ | refine nz32 ?_ | refine And.intro (by assumption) ?_))); (conv => whnf)
        rw [nI_1]
        exact ih (i + 1) D1 (by omega) (fq_tr hf f1)
    refine ⟨rfl, am_Wp_bl mfM_doorDigest [34] 60 _ _ _ _ _ ?_⟩
    (repeat ((conv => whnf); (first | refine zo0 ?_ | refine zo1 ?_ | refine br_z ?_ | refine br_o ?_ | refine br_zn ?_ | refine br_on ?_ | refine nz2 ?_ | refine nz6 ?_ | refine nz32 ?_ | refine And.intro (by assumption) ?_))); (conv => whnf)
    refine ⟨v, d, 0, hv, hi, rfl, hd, by decide +kernel, by decide, fun D1 f1 => ?_⟩
    (repeat ((conv => whnf); (first | refine zo0 ?_ | refine zo1 ?_ | refine br_z ?_ | refine br_o ?_ | refine br_zn ?_ | refine br_on ?_ | refine nz2 ?_ | refine nz6 ?_ | refine nz32 ?_ | refine And.intro (by assumption) ?_))); (conv => whnf)
    refine ⟨v, d, 1, hv, im_fq hi f1, rfl, hd, by decide +kernel, by decide, fun D2 f2 => ?_⟩
    (repeat ((conv => whnf); (first | refine zo0 ?_ | refine zo1 ?_ | refine br_z ?_ | refine br_o ?_ | refine br_zn ?_ | refine br_on ?_ | refine nz2 ?_ | refine nz6 ?_ | refine nz32 ?_ | refine And.intro (by assumption) ?_))); (conv => whnf)
    exact la 3 0 D2 (by omega) (fq_tr f1 f2)
  · exact absurd h id
theorem clM_doorDigest (l : Launch) : ∀ (a : Nat) (ins : Instr) (b dd : Nat), csM_doorDigest[a]? = some (ins, b, dd) → am_Call l yM_doorDigest.cls 8 ins b dd (fnM_doorDigest a) := by
  intro a ins b dd h
  match a, h with
  | 0, h => cases h; exact am_callV (T := F_11) (N := 52) (okM_toldOf l) wcM_toldOf (am_m5 (i := 58) rfl rfl) wiM_toldOf wsM_toldOf inM rfl (by decide) (by decide +kernel) (by decide) (by decide)
  | 1, h => cases h; exact am_callV (T := F_11) (N := 52) (okM_doorOf l) wcM_doorOf (am_m5 (i := 173) rfl rfl) wiM_doorOf wsM_doorOf inM rfl (by decide) (by decide +kernel) (by decide) (by decide)
  | 2, h => cases h; exact am_callV (T := F_11) (N := 52) (okM_doneOf l) wcM_doneOf (am_m5 (i := 181) rfl rfl) wiM_doneOf wsM_doneOf inM rfl (by decide) (by decide +kernel) (by decide) (by decide)
  | 3, h => cases h; exact am_callV (T := F_11) (N := 52) (okM_numbersBy l) wcM_numbersBy (am_m6 (i := 49) rfl rfl) wiM_numbersBy wsM_numbersBy inM rfl (by decide) (by decide +kernel) (by decide) (by decide)
  | 4, h => cases h; exact am_callV (T := F_11) (N := 52) (okM_chanceOf l) wcM_chanceOf (am_m6 (i := 77) rfl rfl) wiM_chanceOf wsM_chanceOf inM rfl (by decide) (by decide +kernel) (by decide) (by decide)
  | k + 5, h => simp [csM_doorDigest] at h
theorem okM_doorDigest (l : Launch) : am_Ok l yM_doorDigest prog_13_method_95_code 7 (some .long) 8 spM_doorDigest := am_ok_of (by decide +kernel) flM_ok kiM_ok klM_ok ckM_doorDigest (clM_doorDigest l) wpM_doorDigest
def fnM_planDigest : Nat → am_Sp := fun a => match a with
  | 0 => spM_betterOf
  | 1 => spM_fitOf
  | 2 => spM_swapOf
  | 3 => spM_spareBy
  | 4 => spM_ofRow
  | _ => am_no
theorem mfM_planDigest : ∀ a, am_mono (fnM_planDigest a) := fun a => match a with
  | 0 => moM_betterOf
  | 1 => moM_fitOf
  | 2 => moM_swapOf
  | 3 => moM_spareBy
  | 4 => moM_ofRow
  | _ + 5 => am_no_mono
def spM_planDigest : am_Sp := fun as D L K => match as with
  | [.ref 49, .long x] => ∃ v : vs_T, vok v ∧ im D v ∧ ∀ D', fq D D' → K (some (.long (dgPlan v x))) D' L
  | _ => False
theorem moM_planDigest : am_mono spM_planDigest := by
  intro as D L K K' hK h
  unfold spM_planDigest at h ⊢
  split at h
  · obtain ⟨z0, z1, z2, hz⟩ := h
    exact ⟨z0, z1, z2, fun D' q => hK _ _ _ (hz D' q)⟩
  · exact h
theorem wpM_planDigest : ∀ (as : List Value) (D : am_D) (L : am_L) (K : am_K), spM_planDigest as D L K → am_fit 6 as = true ∧ am_Wp false 0 cdM_planDigest fnM_planDigest K 0 (am_lo 6 as) [] D L := by
  intro as D L K h
  unfold spM_planDigest at h
  split at h
  · rename_i x
    obtain ⟨v, hv, hi, hK⟩ := h
    have fin : ∀ (D' : am_D) (k5 : Option Value), fq D D' → am_Wp false 0 cdM_planDigest fnM_planDigest K 89 [some (.ref 49), some (.long x), none, some (.long (dgs (fun c => (swI (aSwap v) c).toInt64) (dgs (fun c => (pI (aFit v) c).toInt64) (dgs (fun c => (pI (aBetter v) c).toInt64) (x) 3) 3) 4)), none, k5] [] D' L := by
      intro D' k5 hf
      refine am_Wp_bl mfM_planDigest [] 80 _ _ _ _ _ ?_
      (repeat ((conv => whnf); (first | refine zo0 ?_ | refine zo1 ?_ | refine br_z ?_ | refine br_o ?_ | refine br_zn ?_ | refine br_on ?_ | refine nz2 ?_ | refine nz6 ?_ | refine nz32 ?_ | refine And.intro (by assumption) ?_))); (conv => whnf)
      refine ⟨v, hv, im_fq hi hf, fun D1 f1 sp => ?_⟩
      have g1 := fq_tr hf f1
      (repeat ((conv => whnf); (first | refine zo0 ?_ | refine zo1 ?_ | refine br_z ?_ | refine br_o ?_ | refine br_zn ?_ | refine br_on ?_ | refine nz2 ?_ | refine nz6 ?_ | refine nz32 ?_ | refine And.intro (by assumption) ?_))); (conv => whnf)
      refine ⟨v, rfl, Or.inr (Or.inl rfl), sp, ?_⟩
      rw [if_neg (show ¬ (0 : Int32) = -1 by decide), show cN 0 = 0 from cl0]
      (repeat ((conv => whnf); (first | refine zo0 ?_ | refine zo1 ?_ | refine br_z ?_ | refine br_o ?_ | refine br_zn ?_ | refine br_on ?_ | refine nz2 ?_ | refine nz6 ?_ | refine nz32 ?_ | refine And.intro (by assumption) ?_))); (conv => whnf)
      exact hK D1 g1
    have lc : ∀ (m i : Nat) (D' : am_D), i + m = 4 → fq D D' → am_Wp false 0 cdM_planDigest fnM_planDigest K 63 [some (.ref 49), some (.long x), none, some (.long (dgs (fun c => (swI (aSwap v) c).toInt64) (dgs (fun c => (pI (aFit v) c).toInt64) (dgs (fun c => (pI (aBetter v) c).toInt64) (x) 3) 3) i)), none, some (.int (nI i))] [] D' L := by
      intro m
      induction m with
      | zero =>
        intro i D' hm hf
        refine am_Wp_bl mfM_planDigest [63, 89] 40 _ _ _ _ _ ?_
        (repeat ((conv => whnf); (first | refine zo0 ?_ | refine zo1 ?_ | refine br_z ?_ | refine br_o ?_ | refine br_zn ?_ | refine br_on ?_ | refine nz2 ?_ | refine nz6 ?_ | refine nz32 ?_ | refine And.intro (by assumption) ?_))); (conv => whnf)
        refine ⟨fun h1 => ?_, fun h1 => absurd (nI_le (a := 4) (by omega) (by omega)) h1⟩
        (repeat ((conv => whnf); (first | refine zo0 ?_ | refine zo1 ?_ | refine br_z ?_ | refine br_o ?_ | refine br_zn ?_ | refine br_on ?_ | refine nz2 ?_ | refine nz6 ?_ | refine nz32 ?_ | refine And.intro (by assumption) ?_))); (conv => whnf)
        rw [show i = 4 by omega]
        exact fin D' _ hf
      | succ m ih =>
        intro i D' hm hf
        refine am_Wp_bl mfM_planDigest [63, 89] 60 _ _ _ _ _ ?_
        (repeat ((conv => whnf); (first | refine zo0 ?_ | refine zo1 ?_ | refine br_z ?_ | refine br_o ?_ | refine br_zn ?_ | refine br_on ?_ | refine nz2 ?_ | refine nz6 ?_ | refine nz32 ?_ | refine And.intro (by assumption) ?_))); (conv => whnf)
        refine ⟨fun h1 => absurd h1 (nI_ge (b := 4) (by omega) (by omega)), fun h1 => ?_⟩
        (repeat ((conv => whnf); (first | refine zo0 ?_ | refine zo1 ?_ | refine br_z ?_ | refine br_o ?_ | refine br_zn ?_ | refine br_on ?_ | refine nz2 ?_ | refine nz6 ?_ | refine nz32 ?_ | refine And.intro (by assumption) ?_))); (conv => whnf)
        have hi' := im_fq hi hf
        refine ⟨v, i, hv, hi', rfl, by omega, fun D1 f1 => ?_⟩
        (repeat ((conv => whnf); (first | refine zo0 ?_ | refine zo1 ?_ | refine br_z ?_ | refine br_o ?_ | refine br_zn ?_ | refine br_on ?_ | refine nz2 ?_ | refine nz6 ?_ | refine nz32 ?_ | refine And.intro (by assumption) ?_))); (conv => whnf)
        rw [nI_1]
        exact ih (i + 1) D1 (by omega) (fq_tr hf f1)
    have lb : ∀ (m i : Nat) (D' : am_D), i + m = 3 → fq D D' → am_Wp false 0 cdM_planDigest fnM_planDigest K 34 [some (.ref 49), some (.long x), none, some (.long (dgs (fun c => (pI (aFit v) c).toInt64) (dgs (fun c => (pI (aBetter v) c).toInt64) (x) 3) i)), none, some (.int (nI i))] [] D' L := by
      intro m
      induction m with
      | zero =>
        intro i D' hm hf
        refine am_Wp_bl mfM_planDigest [34, 63] 40 _ _ _ _ _ ?_
        (repeat ((conv => whnf); (first | refine zo0 ?_ | refine zo1 ?_ | refine br_z ?_ | refine br_o ?_ | refine br_zn ?_ | refine br_on ?_ | refine nz2 ?_ | refine nz6 ?_ | refine nz32 ?_ | refine And.intro (by assumption) ?_))); (conv => whnf)
        refine ⟨fun h1 => ?_, fun h1 => absurd (nI_le (a := 3) (by omega) (by omega)) h1⟩
        (repeat ((conv => whnf); (first | refine zo0 ?_ | refine zo1 ?_ | refine br_z ?_ | refine br_o ?_ | refine br_zn ?_ | refine br_on ?_ | refine nz2 ?_ | refine nz6 ?_ | refine nz32 ?_ | refine And.intro (by assumption) ?_))); (conv => whnf)
        rw [show i = 3 by omega]
        exact lc 4 0 D' (by omega) hf
      | succ m ih =>
        intro i D' hm hf
        refine am_Wp_bl mfM_planDigest [34, 63] 60 _ _ _ _ _ ?_
        (repeat ((conv => whnf); (first | refine zo0 ?_ | refine zo1 ?_ | refine br_z ?_ | refine br_o ?_ | refine br_zn ?_ | refine br_on ?_ | refine nz2 ?_ | refine nz6 ?_ | refine nz32 ?_ | refine And.intro (by assumption) ?_))); (conv => whnf)
        refine ⟨fun h1 => absurd h1 (nI_ge (b := 3) (by omega) (by omega)), fun h1 => ?_⟩
        (repeat ((conv => whnf); (first | refine zo0 ?_ | refine zo1 ?_ | refine br_z ?_ | refine br_o ?_ | refine br_zn ?_ | refine br_on ?_ | refine nz2 ?_ | refine nz6 ?_ | refine nz32 ?_ | refine And.intro (by assumption) ?_))); (conv => whnf)
        have hi' := im_fq hi hf
        refine ⟨v, i, hv, hi', rfl, by omega, fun D1 f1 => ?_⟩
        (repeat ((conv => whnf); (first | refine zo0 ?_ | refine zo1 ?_ | refine br_z ?_ | refine br_o ?_ | refine br_zn ?_ | refine br_on ?_ | refine nz2 ?_ | refine nz6 ?_ | refine nz32 ?_ | refine And.intro (by assumption) ?_))); (conv => whnf)
        rw [nI_1]
        exact ih (i + 1) D1 (by omega) (fq_tr hf f1)
    have la : ∀ (m i : Nat) (D' : am_D), i + m = 3 → fq D D' → am_Wp false 0 cdM_planDigest fnM_planDigest K 5 [some (.ref 49), some (.long x), none, some (.long (dgs (fun c => (pI (aBetter v) c).toInt64) (x) i)), none, some (.int (nI i))] [] D' L := by
      intro m
      induction m with
      | zero =>
        intro i D' hm hf
        refine am_Wp_bl mfM_planDigest [5, 34] 40 _ _ _ _ _ ?_
        (repeat ((conv => whnf); (first | refine zo0 ?_ | refine zo1 ?_ | refine br_z ?_ | refine br_o ?_ | refine br_zn ?_ | refine br_on ?_ | refine nz2 ?_ | refine nz6 ?_ | refine nz32 ?_ | refine And.intro (by assumption) ?_))); (conv => whnf)
        refine ⟨fun h1 => ?_, fun h1 => absurd (nI_le (a := 3) (by omega) (by omega)) h1⟩
        (repeat ((conv => whnf); (first | refine zo0 ?_ | refine zo1 ?_ | refine br_z ?_ | refine br_o ?_ | refine br_zn ?_ | refine br_on ?_ | refine nz2 ?_ | refine nz6 ?_ | refine nz32 ?_ | refine And.intro (by assumption) ?_))); (conv => whnf)
        rw [show i = 3 by omega]
        exact lb 3 0 D' (by omega) hf
      | succ m ih =>
        intro i D' hm hf
        refine am_Wp_bl mfM_planDigest [5, 34] 60 _ _ _ _ _ ?_
        (repeat ((conv => whnf); (first | refine zo0 ?_ | refine zo1 ?_ | refine br_z ?_ | refine br_o ?_ | refine br_zn ?_ | refine br_on ?_ | refine nz2 ?_ | refine nz6 ?_ | refine nz32 ?_ | refine And.intro (by assumption) ?_))); (conv => whnf)
        refine ⟨fun h1 => absurd h1 (nI_ge (b := 3) (by omega) (by omega)), fun h1 => ?_⟩
        (repeat ((conv => whnf); (first | refine zo0 ?_ | refine zo1 ?_ | refine br_z ?_ | refine br_o ?_ | refine br_zn ?_ | refine br_on ?_ | refine nz2 ?_ | refine nz6 ?_ | refine nz32 ?_ | refine And.intro (by assumption) ?_))); (conv => whnf)
        have hi' := im_fq hi hf
        refine ⟨v, i, hv, hi', rfl, by omega, fun D1 f1 => ?_⟩
        (repeat ((conv => whnf); (first | refine zo0 ?_ | refine zo1 ?_ | refine br_z ?_ | refine br_o ?_ | refine br_zn ?_ | refine br_on ?_ | refine nz2 ?_ | refine nz6 ?_ | refine nz32 ?_ | refine And.intro (by assumption) ?_))); (conv => whnf)
        rw [nI_1]
        exact ih (i + 1) D1 (by omega) (fq_tr hf f1)
    refine ⟨rfl, am_Wp_bl mfM_planDigest [5] 60 _ _ _ _ _ ?_⟩
    (repeat ((conv => whnf); (first | refine zo0 ?_ | refine zo1 ?_ | refine br_z ?_ | refine br_o ?_ | refine br_zn ?_ | refine br_on ?_ | refine nz2 ?_ | refine nz6 ?_ | refine nz32 ?_ | refine And.intro (by assumption) ?_))); (conv => whnf)
    exact la 3 0 D (by omega) fq_rf
  · exact absurd h id
theorem clM_planDigest (l : Launch) : ∀ (a : Nat) (ins : Instr) (b dd : Nat), csM_planDigest[a]? = some (ins, b, dd) → am_Call l yM_planDigest.cls 8 ins b dd (fnM_planDigest a) := by
  intro a ins b dd h
  match a, h with
  | 0, h => cases h; exact am_callV (T := F_11) (N := 52) (okM_betterOf l) wcM_betterOf (am_m5 (i := 217) rfl rfl) wiM_betterOf wsM_betterOf inM rfl (by decide) (by decide +kernel) (by decide) (by decide)
  | 1, h => cases h; exact am_callV (T := F_11) (N := 52) (okM_fitOf l) wcM_fitOf (am_m5 (i := 237) rfl rfl) wiM_fitOf wsM_fitOf inM rfl (by decide) (by decide +kernel) (by decide) (by decide)
  | 2, h => cases h; exact am_callV (T := F_11) (N := 52) (okM_swapOf l) wcM_swapOf (am_m6 (i := 5) rfl rfl) wiM_swapOf wsM_swapOf inM rfl (by decide) (by decide +kernel) (by decide) (by decide)
  | 3, h => cases h; exact am_callV (T := F_11) (N := 52) (okM_spareBy l) wcM_spareBy (am_m6 (i := 13) rfl rfl) wiM_spareBy wsM_spareBy inM rfl (by decide) (by decide +kernel) (by decide) (by decide)
  | 4, h => cases h; exact am_callV (T := F_11) (N := 52) (okM_ofRow l) wcM_ofRow (am_m6 (i := 21) rfl rfl) wiM_ofRow wsM_ofRow inM rfl (by decide) (by decide +kernel) (by decide) (by decide)
  | k + 5, h => simp [csM_planDigest] at h
theorem okM_planDigest (l : Launch) : am_Ok l yM_planDigest prog_13_method_96_code 6 (some .long) 8 spM_planDigest := am_ok_of (by decide +kernel) flM_ok kiM_ok klM_ok ckM_planDigest (clM_planDigest l) wpM_planDigest
def fnM_digest : Nat → am_Sp := fun a => match a with
  | 0 => spM_count
  | 1 => spM_faultOf
  | 2 => spM_roundOf
  | 3 => spM_atOf
  | 4 => spM_doorDigest
  | 5 => spM_sumOf
  | 6 => spM_overOf
  | 7 => spM_lacksOf
  | 8 => spM_planDigest
  | 9 => spM_neverNow
  | 10 => spM_kindsBy
  | 11 => spM_roomsBy
  | 12 => spM_askOf
  | 13 => spM_morningsOf
  | _ => am_no
theorem mfM_digest : ∀ a, am_mono (fnM_digest a) := fun a => match a with
  | 0 => moM_count
  | 1 => moM_faultOf
  | 2 => moM_roundOf
  | 3 => moM_atOf
  | 4 => moM_doorDigest
  | 5 => moM_sumOf
  | 6 => moM_overOf
  | 7 => moM_lacksOf
  | 8 => moM_planDigest
  | 9 => moM_neverNow
  | 10 => moM_kindsBy
  | 11 => moM_roomsBy
  | 12 => moM_askOf
  | 13 => moM_morningsOf
  | _ + 14 => am_no_mono
def spM_digest : am_Sp := fun as D L K => match as with
  | [.ref 49] => ∃ v : vs_T, vok v ∧ im D v ∧ ∀ D', fq D D' → K (some (.long (qDigest v))) D' L
  | _ => False
theorem moM_digest : am_mono spM_digest := by
  intro as D L K K' hK h
  unfold spM_digest at h ⊢
  split at h
  · obtain ⟨z0, z1, z2, hz⟩ := h
    exact ⟨z0, z1, z2, fun D' q => hK _ _ _ (hz D' q)⟩
  · exact h
theorem wpM_digest : ∀ (as : List Value) (D : am_D) (L : am_L) (K : am_K), spM_digest as D L K → am_fit 5 as = true ∧ am_Wp false 0 cdM_digest fnM_digest K 0 (am_lo 5 as) [] D L := by
  intro as D L K h
  unfold spM_digest at h
  split at h
  · obtain ⟨v, hv, hi, hK⟩ := h
    have fin : ∀ (D0 : am_D) (k3 k4 : Option Value), fq D D0 → am_Wp false 0 cdM_digest fnM_digest K 175 [some (.ref 49), some (.long (dg6 v)), none, k3, k4] [] D0 L := by
      intro D0 k3 k4 g0
      refine am_Wp_bl mfM_digest [] 140 _ _ _ _ _ ?_
      (repeat ((conv => whnf); (first | refine zo0 ?_ | refine zo1 ?_ | refine br_z ?_ | refine br_o ?_ | refine br_zn ?_ | refine br_on ?_ | refine nz2 ?_ | refine nz6 ?_ | refine nz32 ?_ | refine And.intro (by assumption) ?_))); (conv => whnf)
      refine ⟨v, hv, im_fq hi g0, fun D1 f1 => ?_⟩
      have g1 := fq_tr g0 f1
      (repeat ((conv => whnf); (first | refine zo0 ?_ | refine zo1 ?_ | refine br_z ?_ | refine br_o ?_ | refine br_zn ?_ | refine br_on ?_ | refine nz2 ?_ | refine nz6 ?_ | refine nz32 ?_ | refine And.intro (by assumption) ?_))); (conv => whnf)
      refine ⟨v, hv, im_fq hi g1, fun D2 f2 => ?_⟩
      have g2 := fq_tr g1 f2
      (repeat ((conv => whnf); (first | refine zo0 ?_ | refine zo1 ?_ | refine br_z ?_ | refine br_o ?_ | refine br_zn ?_ | refine br_on ?_ | refine nz2 ?_ | refine nz6 ?_ | refine nz32 ?_ | refine And.intro (by assumption) ?_))); (conv => whnf)
      refine ⟨v, hv, im_fq hi g2, fun D3 f3 => ?_⟩
      have g3 := fq_tr g2 f3
      (repeat ((conv => whnf); (first | refine zo0 ?_ | refine zo1 ?_ | refine br_z ?_ | refine br_o ?_ | refine br_zn ?_ | refine br_on ?_ | refine nz2 ?_ | refine nz6 ?_ | refine nz32 ?_ | refine And.intro (by assumption) ?_))); (conv => whnf)
      refine ⟨v, hv, im_fq hi g3, fun D4 f4 => ?_⟩
      have g4 := fq_tr g3 f4
      (repeat ((conv => whnf); (first | refine zo0 ?_ | refine zo1 ?_ | refine br_z ?_ | refine br_o ?_ | refine br_zn ?_ | refine br_on ?_ | refine nz2 ?_ | refine nz6 ?_ | refine nz32 ?_ | refine And.intro (by assumption) ?_))); (conv => whnf)
      refine ⟨v, hv, im_fq hi g4, fun D5 f5 => ?_⟩
      have g5 := fq_tr g4 f5
      (repeat ((conv => whnf); (first | refine zo0 ?_ | refine zo1 ?_ | refine br_z ?_ | refine br_o ?_ | refine br_zn ?_ | refine br_on ?_ | refine nz2 ?_ | refine nz6 ?_ | refine nz32 ?_ | refine And.intro (by assumption) ?_))); (conv => whnf)
      refine ⟨v, hv, im_fq hi g5, fun D6 f6 _ => ?_⟩
      have g6 := fq_tr g5 f6
      (repeat ((conv => whnf); (first | refine zo0 ?_ | refine zo1 ?_ | refine br_z ?_ | refine br_o ?_ | refine br_zn ?_ | refine br_on ?_ | refine nz2 ?_ | refine nz6 ?_ | refine nz32 ?_ | refine And.intro (by assumption) ?_))); (conv => whnf)
      refine ⟨v, hv, im_fq hi g6, fun D7 f7 => ?_⟩
      have g7 := fq_tr g6 f7
      (repeat ((conv => whnf); (first | refine zo0 ?_ | refine zo1 ?_ | refine br_z ?_ | refine br_o ?_ | refine br_zn ?_ | refine br_on ?_ | refine nz2 ?_ | refine nz6 ?_ | refine nz32 ?_ | refine And.intro (by assumption) ?_))); (conv => whnf)
      refine ⟨v, 9, 0, hv, im_fq hi g7, by decide +kernel, by decide, by decide +kernel, by decide, fun D8 f8 => ?_⟩
      have g8 := fq_tr g7 f8
      (repeat ((conv => whnf); (first | refine zo0 ?_ | refine zo1 ?_ | refine br_z ?_ | refine br_o ?_ | refine br_zn ?_ | refine br_on ?_ | refine nz2 ?_ | refine nz6 ?_ | refine nz32 ?_ | refine And.intro (by assumption) ?_))); (conv => whnf)
      refine ⟨v, 9, 1, hv, im_fq hi g8, by decide +kernel, by decide, by decide +kernel, by decide, fun D9 f9 => ?_⟩
      have g9 := fq_tr g8 f9
      (repeat ((conv => whnf); (first | refine zo0 ?_ | refine zo1 ?_ | refine br_z ?_ | refine br_o ?_ | refine br_zn ?_ | refine br_on ?_ | refine nz2 ?_ | refine nz6 ?_ | refine nz32 ?_ | refine And.intro (by assumption) ?_))); (conv => whnf)
      exact hK D9 g9
    have l6 : ∀ (m i : Nat) (D' : am_D) (k4 : Option Value), i + m = 5 → fq D D' → am_Wp false 0 cdM_digest fnM_digest K 151 [some (.ref 49), some (.long (dgs (fun c => (nI (va v 48 0 (suIx c))).toInt64) (dg5 v) i)), none, some (.int (nI i)), k4] [] D' L := by
      intro m
      induction m with
      | zero =>
        intro i D' k4 hm hf
        refine am_Wp_bl mfM_digest [151, 175] 40 _ _ _ _ _ ?_
        (repeat ((conv => whnf); (first | refine zo0 ?_ | refine zo1 ?_ | refine br_z ?_ | refine br_o ?_ | refine br_zn ?_ | refine br_on ?_ | refine nz2 ?_ | refine nz6 ?_ | refine nz32 ?_ | refine And.intro (by assumption) ?_))); (conv => whnf)
        refine ⟨fun h1 => ?_, fun h1 => absurd (nI_le (a := 5) (by omega) (by omega)) h1⟩
        (repeat ((conv => whnf); (first | refine zo0 ?_ | refine zo1 ?_ | refine br_z ?_ | refine br_o ?_ | refine br_zn ?_ | refine br_on ?_ | refine nz2 ?_ | refine nz6 ?_ | refine nz32 ?_ | refine And.intro (by assumption) ?_))); (conv => whnf)
        rw [show i = 5 by omega]
        exact fin D' _ _ hf
      | succ m ih =>
        intro i D' k4 hm hf
        refine am_Wp_bl mfM_digest [151, 175] 60 _ _ _ _ _ ?_
        (repeat ((conv => whnf); (first | refine zo0 ?_ | refine zo1 ?_ | refine br_z ?_ | refine br_o ?_ | refine br_zn ?_ | refine br_on ?_ | refine nz2 ?_ | refine nz6 ?_ | refine nz32 ?_ | refine And.intro (by assumption) ?_))); (conv => whnf)
        refine ⟨fun h1 => absurd h1 (nI_ge (b := 5) (by omega) (by omega)), fun h1 => ?_⟩
        (repeat ((conv => whnf); (first | refine zo0 ?_ | refine zo1 ?_ | refine br_z ?_ | refine br_o ?_ | refine br_zn ?_ | refine br_on ?_ | refine nz2 ?_ | refine nz6 ?_ | refine nz32 ?_ | refine And.intro (by assumption) ?_))); (conv => whnf)
        have hi' := im_fq hi hf
        refine ⟨v, i, hv, hi', rfl, by omega, fun D1 f1 => ?_⟩
        (repeat ((conv => whnf); (first | refine zo0 ?_ | refine zo1 ?_ | refine br_z ?_ | refine br_o ?_ | refine br_zn ?_ | refine br_on ?_ | refine nz2 ?_ | refine nz6 ?_ | refine nz32 ?_ | refine And.intro (by assumption) ?_))); (conv => whnf)
        rw [nI_1]
        exact ih (i + 1) D1 k4 (by omega) (fq_tr hf f1)
    have l5 : ∀ (m i : Nat) (D' : am_D) (k4 : Option Value), i + m = 12 → fq D D' → am_Wp false 0 cdM_digest fnM_digest K 130 [some (.ref 49), some (.long (dgd v (dg4 v) i)), none, some (.int (nI i)), k4] [] D' L := by
      intro m
      induction m with
      | zero =>
        intro i D' k4 hm hf
        refine am_Wp_bl mfM_digest [130, 151] 40 _ _ _ _ _ ?_
        (repeat ((conv => whnf); (first | refine zo0 ?_ | refine zo1 ?_ | refine br_z ?_ | refine br_o ?_ | refine br_zn ?_ | refine br_on ?_ | refine nz2 ?_ | refine nz6 ?_ | refine nz32 ?_ | refine And.intro (by assumption) ?_))); (conv => whnf)
        refine ⟨fun h1 => ?_, fun h1 => absurd (nI_le (a := 12) (by omega) (by omega)) h1⟩
        (repeat ((conv => whnf); (first | refine zo0 ?_ | refine zo1 ?_ | refine br_z ?_ | refine br_o ?_ | refine br_zn ?_ | refine br_on ?_ | refine nz2 ?_ | refine nz6 ?_ | refine nz32 ?_ | refine And.intro (by assumption) ?_))); (conv => whnf)
        rw [show i = 12 by omega]
        exact l6 5 0 D' _ (by omega) hf
      | succ m ih =>
        intro i D' k4 hm hf
        refine am_Wp_bl mfM_digest [130, 151] 60 _ _ _ _ _ ?_
        (repeat ((conv => whnf); (first | refine zo0 ?_ | refine zo1 ?_ | refine br_z ?_ | refine br_o ?_ | refine br_zn ?_ | refine br_on ?_ | refine nz2 ?_ | refine nz6 ?_ | refine nz32 ?_ | refine And.intro (by assumption) ?_))); (conv => whnf)
        refine ⟨fun h1 => absurd h1 (nI_ge (b := 12) (by omega) (by omega)), fun h1 => ?_⟩
        (repeat ((conv => whnf); (first | refine zo0 ?_ | refine zo1 ?_ | refine br_z ?_ | refine br_o ?_ | refine br_zn ?_ | refine br_on ?_ | refine nz2 ?_ | refine nz6 ?_ | refine nz32 ?_ | refine And.intro (by assumption) ?_))); (conv => whnf)
        have hi' := im_fq hi hf
        refine ⟨v, i, hv, hi', rfl, by omega, fun D1 f1 => ?_⟩
        (repeat ((conv => whnf); (first | refine zo0 ?_ | refine zo1 ?_ | refine br_z ?_ | refine br_o ?_ | refine br_zn ?_ | refine br_on ?_ | refine nz2 ?_ | refine nz6 ?_ | refine nz32 ?_ | refine And.intro (by assumption) ?_))); (conv => whnf)
        rw [nI_1]
        exact ih (i + 1) D1 k4 (by omega) (fq_tr hf f1)
    have l4 : ∀ (n t : Nat) (D' : am_D) (k4 : Option Value), t + n = 48 → fq D D' → am_Wp false 0 cdM_digest fnM_digest K 86 [some (.ref 49), some (.long (dgm v (dg3 v) t)), none, some (.int (nI t)), k4] [] D' L := by
      intro n
      induction n with
      | zero =>
        intro t D' k4 hm hf
        refine am_Wp_bl mfM_digest [130] 40 _ _ _ _ _ ?_
        (repeat ((conv => whnf); (first | refine zo0 ?_ | refine zo1 ?_ | refine br_z ?_ | refine br_o ?_ | refine br_zn ?_ | refine br_on ?_ | refine nz2 ?_ | refine nz6 ?_ | refine nz32 ?_ | refine And.intro (by assumption) ?_))); (conv => whnf)
        refine ⟨fun h1 => ?_, fun h1 => absurd (nI_le (a := 48) (by omega) (by omega)) h1⟩
        (repeat ((conv => whnf); (first | refine zo0 ?_ | refine zo1 ?_ | refine br_z ?_ | refine br_o ?_ | refine br_zn ?_ | refine br_on ?_ | refine nz2 ?_ | refine nz6 ?_ | refine nz32 ?_ | refine And.intro (by assumption) ?_))); (conv => whnf)
        rw [show t = 48 by omega]
        exact l5 12 0 D' _ (by omega) hf
      | succ n ih =>
        intro t D' k4 hm hf
        have hq : ∀ (D' : am_D) (k4 : Option Value), fq D D' → am_Wp false 0 cdM_digest fnM_digest K 86 [some (.ref 49), some (.long (dgs (fun c => (nI (va v (t + 1) 0 (atIx c))).toInt64) (dgm v (dg3 v) t) 5)), none, some (.int (nI (t + 1))), k4] [] D' L := fun D' k4 hf => ih (t + 1) D' k4 (by omega) hf
        have l4i : ∀ (m i : Nat) (D' : am_D), i + m = 5 → fq D D' → am_Wp false 0 cdM_digest fnM_digest K 95 [some (.ref 49), some (.long (dgs (fun c => (nI (va v (t + 1) 0 (atIx c))).toInt64) (dgm v (dg3 v) t) i)), none, some (.int (nI t)), some (.int (nI i))] [] D' L := by
          intro m
          induction m with
          | zero =>
            intro i D' hm hf
            refine am_Wp_bl mfM_digest [95, 86] 40 _ _ _ _ _ ?_
            (repeat ((conv => whnf); (first | refine zo0 ?_ | refine zo1 ?_ | refine br_z ?_ | refine br_o ?_ | refine br_zn ?_ | refine br_on ?_ | refine nz2 ?_ | refine nz6 ?_ | refine nz32 ?_ | refine And.intro (by assumption) ?_))); (conv => whnf)
            refine ⟨fun h1 => ?_, fun h1 => absurd (nI_le (a := 5) (by omega) (by omega)) h1⟩
            (repeat ((conv => whnf); (first | refine zo0 ?_ | refine zo1 ?_ | refine br_z ?_ | refine br_o ?_ | refine br_zn ?_ | refine br_on ?_ | refine nz2 ?_ | refine nz6 ?_ | refine nz32 ?_ | refine And.intro (by assumption) ?_))); (conv => whnf)
            rw [show i = 5 by omega]
            rw [nI_1]
            exact hq D' _ hf
          | succ m ih =>
            intro i D' hm hf
            refine am_Wp_bl mfM_digest [95, 86] 60 _ _ _ _ _ ?_
            (repeat ((conv => whnf); (first | refine zo0 ?_ | refine zo1 ?_ | refine br_z ?_ | refine br_o ?_ | refine br_zn ?_ | refine br_on ?_ | refine nz2 ?_ | refine nz6 ?_ | refine nz32 ?_ | refine And.intro (by assumption) ?_))); (conv => whnf)
            refine ⟨fun h1 => absurd h1 (nI_ge (b := 5) (by omega) (by omega)), fun h1 => ?_⟩
            (repeat ((conv => whnf); (first | refine zo0 ?_ | refine zo1 ?_ | refine br_z ?_ | refine br_o ?_ | refine br_zn ?_ | refine br_on ?_ | refine nz2 ?_ | refine nz6 ?_ | refine nz32 ?_ | refine And.intro (by assumption) ?_))); (conv => whnf)
            have hi' := im_fq hi hf
            refine ⟨v, t, i, hv, hi', rfl, by omega, rfl, by omega, fun D1 f1 => ?_⟩
            (repeat ((conv => whnf); (first | refine zo0 ?_ | refine zo1 ?_ | refine br_z ?_ | refine br_o ?_ | refine br_zn ?_ | refine br_on ?_ | refine nz2 ?_ | refine nz6 ?_ | refine nz32 ?_ | refine And.intro (by assumption) ?_))); (conv => whnf)
            rw [nI_1]
            exact ih (i + 1) D1 (by omega) (fq_tr hf f1)
        refine am_Wp_bl mfM_digest [95] 40 _ _ _ _ _ ?_
        (repeat ((conv => whnf); (first | refine zo0 ?_ | refine zo1 ?_ | refine br_z ?_ | refine br_o ?_ | refine br_zn ?_ | refine br_on ?_ | refine nz2 ?_ | refine nz6 ?_ | refine nz32 ?_ | refine And.intro (by assumption) ?_))); (conv => whnf)
        refine ⟨fun h1 => absurd h1 (nI_ge (b := 48) (by omega) (by omega)), fun h1 => ?_⟩
        (repeat ((conv => whnf); (first | refine zo0 ?_ | refine zo1 ?_ | refine br_z ?_ | refine br_o ?_ | refine br_zn ?_ | refine br_on ?_ | refine nz2 ?_ | refine nz6 ?_ | refine nz32 ?_ | refine And.intro (by assumption) ?_))); (conv => whnf)
        exact l4i 5 0 D' (by omega) hf
    have l3 : ∀ (m i : Nat) (D' : am_D) (k4 : Option Value), i + m = 24 → fq D D' → am_Wp false 0 cdM_digest fnM_digest K 59 [some (.ref 49), some (.long (dgs (fun i => (dgRnd v i).toInt64) (dg2 v) i)), none, some (.int (nI i)), k4] [] D' L := by
      intro m
      induction m with
      | zero =>
        intro i D' k4 hm hf
        refine am_Wp_bl mfM_digest [59, 86] 40 _ _ _ _ _ ?_
        (repeat ((conv => whnf); (first | refine zo0 ?_ | refine zo1 ?_ | refine br_z ?_ | refine br_o ?_ | refine br_zn ?_ | refine br_on ?_ | refine nz2 ?_ | refine nz6 ?_ | refine nz32 ?_ | refine And.intro (by assumption) ?_))); (conv => whnf)
        refine ⟨fun h1 => ?_, fun h1 => absurd (nI_le (a := 24) (by omega) (by omega)) h1⟩
        (repeat ((conv => whnf); (first | refine zo0 ?_ | refine zo1 ?_ | refine br_z ?_ | refine br_o ?_ | refine br_zn ?_ | refine br_on ?_ | refine nz2 ?_ | refine nz6 ?_ | refine nz32 ?_ | refine And.intro (by assumption) ?_))); (conv => whnf)
        rw [show i = 24 by omega]
        exact l4 48 0 D' _ (by omega) hf
      | succ m ih =>
        intro i D' k4 hm hf
        refine am_Wp_bl mfM_digest [59, 86] 60 _ _ _ _ _ ?_
        (repeat ((conv => whnf); (first | refine zo0 ?_ | refine zo1 ?_ | refine br_z ?_ | refine br_o ?_ | refine br_zn ?_ | refine br_on ?_ | refine nz2 ?_ | refine nz6 ?_ | refine nz32 ?_ | refine And.intro (by assumption) ?_))); (conv => whnf)
        refine ⟨fun h1 => absurd h1 (nI_ge (b := 24) (by omega) (by omega)), fun h1 => ?_⟩
        (repeat ((conv => whnf); (first | refine zo0 ?_ | refine zo1 ?_ | refine br_z ?_ | refine br_o ?_ | refine br_zn ?_ | refine br_on ?_ | refine nz2 ?_ | refine nz6 ?_ | refine nz32 ?_ | refine And.intro (by assumption) ?_))); (conv => whnf)
        have hi' := im_fq hi hf
        refine ⟨v, i, hv, hi', rfl, by omega, fun D1 f1 => ?_⟩
        (repeat ((conv => whnf); (first | refine zo0 ?_ | refine zo1 ?_ | refine br_z ?_ | refine br_o ?_ | refine br_zn ?_ | refine br_on ?_ | refine nz2 ?_ | refine nz6 ?_ | refine nz32 ?_ | refine And.intro (by assumption) ?_))); (conv => whnf)
        rw [nI_1]
        exact ih (i + 1) D1 k4 (by omega) (fq_tr hf f1)
    have l2 : ∀ (m i : Nat) (D' : am_D) (k4 : Option Value), i + m = 3 → fq D D' → am_Wp false 0 cdM_digest fnM_digest K 33 [some (.ref 49), some (.long (dgs (fun t => (vfI (vflt v t)).toInt64) (dg1 v) i)), none, some (.int (nI i)), k4] [] D' L := by
      intro m
      induction m with
      | zero =>
        intro i D' k4 hm hf
        refine am_Wp_bl mfM_digest [33, 59] 40 _ _ _ _ _ ?_
        (repeat ((conv => whnf); (first | refine zo0 ?_ | refine zo1 ?_ | refine br_z ?_ | refine br_o ?_ | refine br_zn ?_ | refine br_on ?_ | refine nz2 ?_ | refine nz6 ?_ | refine nz32 ?_ | refine And.intro (by assumption) ?_))); (conv => whnf)
        refine ⟨fun h1 => ?_, fun h1 => absurd (nI_le (a := 3) (by omega) (by omega)) h1⟩
        (repeat ((conv => whnf); (first | refine zo0 ?_ | refine zo1 ?_ | refine br_z ?_ | refine br_o ?_ | refine br_zn ?_ | refine br_on ?_ | refine nz2 ?_ | refine nz6 ?_ | refine nz32 ?_ | refine And.intro (by assumption) ?_))); (conv => whnf)
        rw [show i = 3 by omega]
        exact l3 24 0 D' _ (by omega) hf
      | succ m ih =>
        intro i D' k4 hm hf
        refine am_Wp_bl mfM_digest [33, 59] 60 _ _ _ _ _ ?_
        (repeat ((conv => whnf); (first | refine zo0 ?_ | refine zo1 ?_ | refine br_z ?_ | refine br_o ?_ | refine br_zn ?_ | refine br_on ?_ | refine nz2 ?_ | refine nz6 ?_ | refine nz32 ?_ | refine And.intro (by assumption) ?_))); (conv => whnf)
        refine ⟨fun h1 => absurd h1 (nI_ge (b := 3) (by omega) (by omega)), fun h1 => ?_⟩
        (repeat ((conv => whnf); (first | refine zo0 ?_ | refine zo1 ?_ | refine br_z ?_ | refine br_o ?_ | refine br_zn ?_ | refine br_on ?_ | refine nz2 ?_ | refine nz6 ?_ | refine nz32 ?_ | refine And.intro (by assumption) ?_))); (conv => whnf)
        have hi' := im_fq hi hf
        refine ⟨v, i, rfl, by omega, hv, hi', ?_⟩
        (repeat ((conv => whnf); (first | refine zo0 ?_ | refine zo1 ?_ | refine br_z ?_ | refine br_o ?_ | refine br_zn ?_ | refine br_on ?_ | refine nz2 ?_ | refine nz6 ?_ | refine nz32 ?_ | refine And.intro (by assumption) ?_))); (conv => whnf)
        rw [nI_1]
        exact ih (i + 1) D' k4 (by omega) hf
    have l1 : ∀ (m i : Nat) (D' : am_D) (k4 : Option Value), i + m = 8 → fq D D' → am_Wp false 0 cdM_digest fnM_digest K 6 [some (.ref 49), some (.long (dgs (fun k => (qCount v (nI k)).toInt64) 17 i)), none, some (.int (nI i)), k4] [] D' L := by
      intro m
      induction m with
      | zero =>
        intro i D' k4 hm hf
        refine am_Wp_bl mfM_digest [6, 33] 40 _ _ _ _ _ ?_
        (repeat ((conv => whnf); (first | refine zo0 ?_ | refine zo1 ?_ | refine br_z ?_ | refine br_o ?_ | refine br_zn ?_ | refine br_on ?_ | refine nz2 ?_ | refine nz6 ?_ | refine nz32 ?_ | refine And.intro (by assumption) ?_))); (conv => whnf)
        refine ⟨fun h1 => ?_, fun h1 => absurd (nI_le (a := 8) (by omega) (by omega)) h1⟩
        (repeat ((conv => whnf); (first | refine zo0 ?_ | refine zo1 ?_ | refine br_z ?_ | refine br_o ?_ | refine br_zn ?_ | refine br_on ?_ | refine nz2 ?_ | refine nz6 ?_ | refine nz32 ?_ | refine And.intro (by assumption) ?_))); (conv => whnf)
        rw [show i = 8 by omega]
        exact l2 3 0 D' _ (by omega) hf
      | succ m ih =>
        intro i D' k4 hm hf
        refine am_Wp_bl mfM_digest [6, 33] 60 _ _ _ _ _ ?_
        (repeat ((conv => whnf); (first | refine zo0 ?_ | refine zo1 ?_ | refine br_z ?_ | refine br_o ?_ | refine br_zn ?_ | refine br_on ?_ | refine nz2 ?_ | refine nz6 ?_ | refine nz32 ?_ | refine And.intro (by assumption) ?_))); (conv => whnf)
        refine ⟨fun h1 => absurd h1 (nI_ge (b := 8) (by omega) (by omega)), fun h1 => ?_⟩
        (repeat ((conv => whnf); (first | refine zo0 ?_ | refine zo1 ?_ | refine br_z ?_ | refine br_o ?_ | refine br_zn ?_ | refine br_on ?_ | refine nz2 ?_ | refine nz6 ?_ | refine nz32 ?_ | refine And.intro (by assumption) ?_))); (conv => whnf)
        have hi' := im_fq hi hf
        refine ⟨v, hv, hi', fun D1 f1 => ?_⟩
        (repeat ((conv => whnf); (first | refine zo0 ?_ | refine zo1 ?_ | refine br_z ?_ | refine br_o ?_ | refine br_zn ?_ | refine br_on ?_ | refine nz2 ?_ | refine nz6 ?_ | refine nz32 ?_ | refine And.intro (by assumption) ?_))); (conv => whnf)
        rw [nI_1]
        exact ih (i + 1) D1 k4 (by omega) (fq_tr hf f1)
    refine ⟨rfl, am_Wp_bl mfM_digest [6] 60 _ _ _ _ _ ?_⟩
    (repeat ((conv => whnf); (first | refine zo0 ?_ | refine zo1 ?_ | refine br_z ?_ | refine br_o ?_ | refine br_zn ?_ | refine br_on ?_ | refine nz2 ?_ | refine nz6 ?_ | refine nz32 ?_ | refine And.intro (by assumption) ?_))); (conv => whnf)
    exact l1 8 0 D none (by omega) fq_rf
  · exact absurd h id
theorem clM_digest (l : Launch) : ∀ (a : Nat) (ins : Instr) (b dd : Nat), csM_digest[a]? = some (ins, b, dd) → am_Call l yM_digest.cls 9 ins b dd (fnM_digest a) := by
  intro a ins b dd h
  match a, h with
  | 0, h => cases h; exact am_callV (T := F_11) (N := 52) (okM_count l) wcM_count (am_m6 (i := 148) rfl rfl) wiM_count wsM_count inM rfl (by decide) (by decide +kernel) (by decide) (by decide)
  | 1, h => cases h; exact am_callV (T := F_11) (N := 52) (okM_faultOf l) wcM_faultOf (am_m5 (i := 44) rfl rfl) wiM_faultOf wsM_faultOf inM rfl (by decide) (by decide +kernel) (by decide) (by decide)
  | 2, h => cases h; exact am_callV (T := F_11) (N := 52) (okM_roundOf l) wcM_roundOf (am_m5 (i := 70) rfl rfl) wiM_roundOf wsM_roundOf inM rfl (by decide) (by decide +kernel) (by decide) (by decide)
  | 3, h => cases h; exact am_callV (T := F_11) (N := 52) (okM_atOf l) wcM_atOf (am_m5 (i := 108) rfl rfl) wiM_atOf wsM_atOf inM rfl (by decide) (by decide +kernel) (by decide) (by decide)
  | 4, h => cases h; exact am_callV (T := F_11) (N := 52) (okM_doorDigest l) wcM_doorDigest (am_m6 (i := 149) rfl rfl) wiM_doorDigest wsM_doorDigest inM rfl (by decide) (by decide +kernel) (by decide) (by decide)
  | 5, h => cases h; exact am_callV (T := F_11) (N := 52) (okM_sumOf l) wcM_sumOf (am_m5 (i := 189) rfl rfl) wiM_sumOf wsM_sumOf inM rfl (by decide) (by decide +kernel) (by decide) (by decide)
  | 6, h => cases h; exact am_callV (T := F_11) (N := 52) (okM_overOf l) wcM_overOf (am_m5 (i := 197) rfl rfl) wiM_overOf wsM_overOf inM rfl (by decide) (by decide +kernel) (by decide) (by decide)
  | 7, h => cases h; exact am_callV (T := F_11) (N := 52) (okM_lacksOf l) wcM_lacksOf (am_m5 (i := 205) rfl rfl) wiM_lacksOf wsM_lacksOf inM rfl (by decide) (by decide +kernel) (by decide) (by decide)
  | 8, h => cases h; exact am_callV (T := F_11) (N := 52) (okM_planDigest l) wcM_planDigest (am_m6 (i := 153) rfl rfl) wiM_planDigest wsM_planDigest inM rfl (by decide) (by decide +kernel) (by decide) (by decide)
  | 9, h => cases h; exact am_callV (T := F_11) (N := 52) (okM_neverNow l) wcM_neverNow (am_m6 (i := 37) rfl rfl) wiM_neverNow wsM_neverNow inM rfl (by decide) (by decide +kernel) (by decide) (by decide)
  | 10, h => cases h; exact am_callV (T := F_11) (N := 52) (okM_kindsBy l) wcM_kindsBy (am_m6 (i := 57) rfl rfl) wiM_kindsBy wsM_kindsBy inM rfl (by decide) (by decide +kernel) (by decide) (by decide)
  | 11, h => cases h; exact am_callV (T := F_11) (N := 52) (okM_roomsBy l) wcM_roomsBy (am_m6 (i := 61) rfl rfl) wiM_roomsBy wsM_roomsBy inM rfl (by decide) (by decide +kernel) (by decide) (by decide)
  | 12, h => cases h; exact am_callV (T := F_11) (N := 52) (okM_askOf l) wcM_askOf (am_m6 (i := 69) rfl rfl) wiM_askOf wsM_askOf inM rfl (by decide) (by decide +kernel) (by decide) (by decide)
  | 13, h => cases h; exact am_callV (T := F_11) (N := 52) (okM_morningsOf l) wcM_morningsOf (am_m6 (i := 92) rfl rfl) wiM_morningsOf wsM_morningsOf inM rfl (by decide) (by decide +kernel) (by decide) (by decide)
  | k + 14, h => simp [csM_digest] at h
theorem okM_digest (l : Launch) : am_Ok l yM_digest prog_13_method_97_code 5 (some .long) 9 spM_digest := am_ok_of (by decide +kernel) flM_ok kiM_ok klM_ok ckM_digest (clM_digest l) wpM_digest
