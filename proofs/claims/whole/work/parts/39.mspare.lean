def fnM_isSpared : Nat → am_Sp := fun a => match a with
  | 0 => spM_runs
  | 1 => spM_shortNow
  | _ => am_no
theorem mfM_isSpared : ∀ a, am_mono (fnM_isSpared a) := fun a => match a with
  | 0 => moM_runs
  | 1 => moM_shortNow
  | _ + 2 => am_no_mono
/-! which events had better not be -/
def mG (v : vs_T) (pr : Nat → Bool) : Bool := decide (mw_lk (vpl v) (mw_run (vpl v) (vev v) pr 48) 12 = 0) && decide (nI (mw_run (vpl v) (vev v) pr 48 0 10) = 0)
def but2 (a b : Nat) : Nat → Bool := fun i => decide (i ≠ a) && decide (i ≠ b)
def sp1 (v : vs_T) (k : Nat) : Nat → Option Nat
  | 0 => none
  | m + 1 => if mG v (but k) = true then some k else sp1 v (k + 1) m
def spb (v : vs_T) (a k : Nat) : Nat → Option Nat
  | 0 => none
  | m + 1 => if mG v (but2 a k) = true then some k else spb v a (k + 1) m
def sp2 (v : vs_T) (n a : Nat) : Nat → Option (Nat × Nat)
  | 0 => none
  | m + 1 => match spb v a (a + 1) (n - (a + 1)) with
    | some b => some (a, b)
    | none => sp2 v n (a + 1) m
/-- how many, and which -/
def aSpare (v : vs_T) : Option (Nat × Nat × Nat) :=
  if mG v allp = true then some (0, 0, 0) else match sp1 v 0 (vn v 0 6) with
  | some a => some (1, a, 0)
  | none => match sp2 v (vn v 0 6) 0 (vn v 0 6) with
    | some (a, b) => some (2, a, b)
    | none => none
def spN (o : Option (Nat × Nat × Nat)) : Int32 := match o with
  | none => -1
  | some (n, _, _) => nI n
theorem prx_but2 : ∀ a, a < 8 → ∀ b, b < 8 → ∀ i, i < 8 → but2 a b i = decide (((((1 : Int32) <<< (nI a &&& 31)) ||| ((1 : Int32) <<< (nI b &&& 31))) >>> (nI i &&& 31)) &&& 1 = 0) := by decide +kernel
def spM_isSpared : am_Sp := fun as D L K => match as with
  | [.ref 49, .int x] => ∃ (v : vs_T) (pr : Nat → Bool), vok v ∧ im D v ∧ pm D (vpl v) ∧ prx x pr ∧ ∀ (D' : am_D) (r : Int32), fq D D' → D' 70 = D 70 → pm D' (vpl v) → ((mG v pr = true ∧ r = 1) ∨ (mG v pr = false ∧ r = 0)) → K (some (.int r)) D' L
  | _ => False
theorem moM_isSpared : am_mono spM_isSpared := by
  intro as D L K K' hK h
  unfold spM_isSpared at h ⊢
  split at h
  · obtain ⟨v, pr, h1, h2, h3, h4, h5⟩ := h
    exact ⟨v, pr, h1, h2, h3, h4, fun D' r q1 q2 q3 q4 => hK _ _ _ (h5 D' r q1 q2 q3 q4)⟩
  · exact h
theorem wpM_isSpared : ∀ (as : List Value) (D : am_D) (L : am_L) (K : am_K), spM_isSpared as D L K → am_fit 2 as = true ∧ am_Wp false 0 cdM_isSpared fnM_isSpared K 0 (am_lo 2 as) [] D L := by
  intro as D L K h
  unfold spM_isSpared at h
  split at h
  · rename_i x
    obtain ⟨v, pr, hv, hi, hp, hpr, hK⟩ := h
    have hP := vpl_ok hv
    have hE := vev_ok hv
    refine ⟨rfl, am_Wp_bl mfM_isSpared [] 40 _ _ _ _ _ ?_⟩
    (repeat ((conv => whnf); (first | refine zo0 ?_ | refine zo1 ?_ | refine br_z ?_ | refine br_o ?_ | refine br_zn ?_ | refine br_on ?_ | refine nz2 ?_ | refine nz6 ?_ | refine nz32 ?_ | refine And.intro (by assumption) ?_))); (conv => whnf)
    have f1 : fq D (am_up D 49 15 x) := fq_up49 (by decide) fq_rf
    have p1 : pm (am_up D 49 15 x) (vpl v) := by
      obtain ⟨x1, x2, x3, x4, x5, x6⟩ := hp
      refine ⟨?_, ?_, ?_, ?_, ?_, ?_⟩
      · rw [am_up_eq]; exact x1
      · rw [am_up_eq]; exact x2
      · rw [am_up_eq]; exact x3
      · rw [am_up_ne (by decide)]; exact x4
      · rw [am_up_ne (by decide), am_up_ne (by decide)]; exact x5
      · rw [am_up_ne (by decide)]; exact x6
    refine ⟨vpl v, vev v, pr, 47, by decide +kernel, by decide, hP, hE, p1, em_im (im_fq hi f1) hv, by rw [am_up_eq]; exact hpr, fun D2 g f2 w2 y2 => ?_⟩
    have ok := mw_run_ok (pr := pr) hP hE 48
    have p2 := pm_fg p1 f2
    have e26 : D2 49 26 = nI (mw_run (vpl v) (vev v) pr 48 0 10) := by obtain ⟨aL, a16, a17, a18, a19, a20, a21, a22, a23, a24, a25, a26, a27⟩ := w2; exact a26
    have e70 : D2 70 = D 70 := by rw [f2.1 70 (by decide) (by omega), am_up_ne (by decide)]
    have fin := fun r hr => hK D2 r (fq_tr f1 (fq_fg f2)) e70 p2 hr
    (repeat ((conv => whnf); (first | refine zo0 ?_ | refine zo1 ?_ | refine br_z ?_ | refine br_o ?_ | refine br_zn ?_ | refine br_on ?_ | refine nz2 ?_ | refine nz6 ?_ | refine nz32 ?_ | refine And.intro (by assumption) ?_))); (conv => whnf)
    refine ⟨vpl v, mw_run (vpl v) (vev v) pr 48, fun d hd => ⟨(p2.2.2.2.2.1 d hd).1, (w2.1 d hd).1, (ok.2.2.2.2.2.2.2.2 d hd).1, (hP.2.2.2.2.2.1 d hd).1⟩, ?_⟩
    (repeat ((conv => whnf); (first | refine zo0 ?_ | refine zo1 ?_ | refine br_z ?_ | refine br_o ?_ | refine br_zn ?_ | refine br_on ?_ | refine nz2 ?_ | refine nz6 ?_ | refine nz32 ?_ | refine And.intro (by assumption) ?_))); (conv => whnf)
    refine ⟨fun h1 => ?_, fun h1 => ?_⟩
    · (repeat ((conv => whnf); (first | refine zo0 ?_ | refine zo1 ?_ | refine br_z ?_ | refine br_o ?_ | refine br_zn ?_ | refine br_on ?_ | refine nz2 ?_ | refine nz6 ?_ | refine nz32 ?_ | refine And.intro (by assumption) ?_))); (conv => whnf)
      exact fin 0 (Or.inr ⟨by unfold mG; rw [decide_eq_false h1]; rfl, rfl⟩)
    · (repeat ((conv => whnf); (first | refine zo0 ?_ | refine zo1 ?_ | refine br_z ?_ | refine br_o ?_ | refine br_zn ?_ | refine br_on ?_ | refine nz2 ?_ | refine nz6 ?_ | refine nz32 ?_ | refine And.intro (by assumption) ?_))); (conv => whnf)
      rw [e26]
      refine ⟨fun h2 => ?_, fun h2 => ?_⟩
      · (repeat ((conv => whnf); (first | refine zo0 ?_ | refine zo1 ?_ | refine br_z ?_ | refine br_o ?_ | refine br_zn ?_ | refine br_on ?_ | refine nz2 ?_ | refine nz6 ?_ | refine nz32 ?_ | refine And.intro (by assumption) ?_))); (conv => whnf)
        exact fin 0 (Or.inr ⟨by unfold mG; rw [decide_eq_false h2, Bool.and_false], rfl⟩)
      · (repeat ((conv => whnf); (first | refine zo0 ?_ | refine zo1 ?_ | refine br_z ?_ | refine br_o ?_ | refine br_zn ?_ | refine br_on ?_ | refine nz2 ?_ | refine nz6 ?_ | refine nz32 ?_ | refine And.intro (by assumption) ?_))); (conv => whnf)
        exact fin 1 (Or.inl ⟨by unfold mG; rw [decide_eq_true h1, decide_eq_true h2]; rfl, rfl⟩)
  · exact absurd h id
theorem clM_isSpared (l : Launch) : ∀ (a : Nat) (ins : Instr) (b dd : Nat), csM_isSpared[a]? = some (ins, b, dd) → am_Call l yM_isSpared.cls 6 ins b dd (fnM_isSpared a) := by
  intro a ins b dd h
  match a, h with
  | 0, h => cases h; exact am_callV (T := F_11) (N := 52) (okM_runs l) wcM_runs (am_m5 (i := 120) rfl rfl) wiM_runs wsM_runs inM rfl (by decide) (by decide +kernel) (by decide) (by decide)
  | 1, h => cases h; exact am_callV (T := F_11) (N := 52) (okM_shortNow l) wcM_shortNow (am_m5 (i := 209) rfl rfl) wiM_shortNow wsM_shortNow inM rfl (by decide) (by decide +kernel) (by decide) (by decide)
  | k + 2, h => simp [csM_isSpared] at h
theorem okM_isSpared (l : Launch) : am_Ok l yM_isSpared prog_13_method_62_code 2 (some .boolean) 6 spM_isSpared := am_ok_of (by decide +kernel) flM_ok kiM_ok klM_ok ckM_isSpared (clM_isSpared l) wpM_isSpared
def fnM_spareBy : Nat → am_Sp := fun a => match a with
  | 0 => spM_asTold
  | 1 => spM_isSpared
  | _ => am_no
theorem mfM_spareBy : ∀ a, am_mono (fnM_spareBy a) := fun a => match a with
  | 0 => moM_asTold
  | 1 => moM_isSpared
  | _ + 2 => am_no_mono
def spM_spareBy : am_Sp := fun as D L K => match as with
  | [.ref 49] => ∃ v : vs_T, vok v ∧ im D v ∧ ∀ D', fq D D' → (∀ n a b, aSpare v = some (n, a, b) → (1 ≤ n → D' 70 0 = nI a) ∧ (2 ≤ n → D' 70 1 = nI b)) → K (some (.int (spN (aSpare v)))) D' L
  | _ => False
theorem moM_spareBy : am_mono spM_spareBy := by
  intro as D L K K' hK h
  unfold spM_spareBy at h ⊢
  split at h
  · obtain ⟨v, h1, h2, h3⟩ := h
    exact ⟨v, h1, h2, fun D' q1 q2 => hK _ _ _ (h3 D' q1 q2)⟩
  · exact h
theorem wpM_spareBy : ∀ (as : List Value) (D : am_D) (L : am_L) (K : am_K), spM_spareBy as D L K → am_fit 3 as = true ∧ am_Wp false 0 cdM_spareBy fnM_spareBy K 0 (am_lo 3 as) [] D L := by
  intro as D L K h
  unfold spM_spareBy at h
  split at h
  · obtain ⟨v, hv, hi, hK⟩ := h
    obtain ⟨n, n1, n2, n3⟩ := hv.2.2.2.2.2.1
    have en : vn v 0 6 = n := vn_nI n2 (by omega)
    have e7 : ∀ D' : am_D, fq D D' → D' 49 7 = nI n := fun D' hf => by rw [hf.2.1, hi.2.2.2.1, n2]
    have i0 : vp_in (0 : Int32) 2 := by rw [← nI_0]; exact vp_in_nI (by decide) (by decide)
    have i1 : vp_in (1 : Int32) 2 := by rw [← nc1]; exact vp_in_nI (by decide) (by decide)
    have cl1 : (1 : Int32).toNatClampNeg = 1 := by decide +kernel
    have pm70 : ∀ {D' : am_D} {j : Nat} {x : Int32}, pm D' (vpl v) → pm (am_up D' 70 j x) (vpl v) := by
      intro D' j x hp
      obtain ⟨x1, x2, x3, x4, x5, x6⟩ := hp
      refine ⟨?_, ?_, ?_, ?_, ?_, ?_⟩
      · rw [am_up_ne (by decide)]; exact x1
      · rw [am_up_ne (by decide)]; exact x2
      · rw [am_up_ne (by decide)]; exact x3
      · rw [am_up_ne (by decide)]; exact x4
      · rw [am_up_ne (by decide), am_up_ne (by decide)]; exact x5
      · rw [am_up_ne (by decide)]; exact x6
    -- pairs
    have inner : ∀ (a : Nat), a < n → (∀ D' k2, fq D D' → pm D' (vpl v) → spb v a (a + 1) (n - (a + 1)) = none → am_Wp false 0 cdM_spareBy fnM_spareBy K 51 [some (.ref 49), some (.int (nI (a + 1))), k2] [] D' L) → (∀ D' b, fq D D' → D' 70 0 = nI a → D' 70 1 = nI b → spb v a (a + 1) (n - (a + 1)) = some b → K (some (.int 2)) D' L) →
        ∀ (m b : Nat) (D' : am_D), b + m = n → fq D D' → pm D' (vpl v) → spb v a b m = spb v a (a + 1) (n - (a + 1)) → am_Wp false 0 cdM_spareBy fnM_spareBy K 63 [some (.ref 49), some (.int (nI a)), some (.int (nI b))] [] D' L := by
      intro a ha hno hyes m
      induction m with
      | zero =>
        intro b D' hb hf hp hs
        refine am_Wp_bl mfM_spareBy [51] 40 _ _ _ _ _ ?_
        (repeat ((conv => whnf); (first | refine zo0 ?_ | refine zo1 ?_ | refine br_z ?_ | refine br_o ?_ | refine br_zn ?_ | refine br_on ?_ | refine nz2 ?_ | refine nz6 ?_ | refine nz32 ?_ | refine And.intro (by assumption) ?_))); (conv => whnf)
        rw [e7 D' hf]
        refine ⟨fun h1 => ?_, fun h1 => absurd (nI_le (by omega) (by omega)) h1⟩
        (repeat ((conv => whnf); (first | refine zo0 ?_ | refine zo1 ?_ | refine br_z ?_ | refine br_o ?_ | refine br_zn ?_ | refine br_on ?_ | refine nz2 ?_ | refine nz6 ?_ | refine nz32 ?_ | refine And.intro (by assumption) ?_))); (conv => whnf)
        rw [nI_1]
        exact hno D' _ hf hp hs.symm
      | succ m ih =>
        intro b D' hb hf hp hs
        refine am_Wp_bl mfM_spareBy [63] 60 _ _ _ _ _ ?_
        (repeat ((conv => whnf); (first | refine zo0 ?_ | refine zo1 ?_ | refine br_z ?_ | refine br_o ?_ | refine br_zn ?_ | refine br_on ?_ | refine nz2 ?_ | refine nz6 ?_ | refine nz32 ?_ | refine And.intro (by assumption) ?_))); (conv => whnf)
        rw [e7 D' hf]
        refine ⟨fun h1 => absurd h1 (nI_ge (by omega) (by omega)), fun h1 => ?_⟩
        (repeat ((conv => whnf); (first | refine zo0 ?_ | refine zo1 ?_ | refine br_z ?_ | refine br_o ?_ | refine br_zn ?_ | refine br_on ?_ | refine nz2 ?_ | refine nz6 ?_ | refine nz32 ?_ | refine And.intro (by assumption) ?_))); (conv => whnf)
        rw [cl0, cl1]
        have f1 : fq D (am_up (am_up D' 70 0 (nI a)) 70 1 (nI b)) := fq_tr hf (fq_up (by decide) (fq_up (by decide) fq_rf))
        refine ⟨v, but2 a b, hv, im_fq hi f1, pm70 (pm70 hp), fun j hj => prx_but2 a (by omega) b (by omega) j hj, fun D2 r f2 g70 p2 hr => ?_⟩
        rcases hr with ⟨s1, rfl⟩ | ⟨s1, rfl⟩
        · (repeat ((conv => whnf); (first | refine zo0 ?_ | refine zo1 ?_ | refine br_z ?_ | refine br_o ?_ | refine br_zn ?_ | refine br_on ?_ | refine nz2 ?_ | refine nz6 ?_ | refine nz32 ?_ | refine And.intro (by assumption) ?_))); (conv => whnf)
          refine hyes D2 b (fq_tr f1 f2) (by rw [g70]; simp [am_up, upd]) (by rw [g70]; simp [am_up, upd]) ?_
          rw [← hs, spb, if_pos s1]
        · (repeat ((conv => whnf); (first | refine zo0 ?_ | refine zo1 ?_ | refine br_z ?_ | refine br_o ?_ | refine br_zn ?_ | refine br_on ?_ | refine nz2 ?_ | refine nz6 ?_ | refine nz32 ?_ | refine And.intro (by assumption) ?_))); (conv => whnf)
          rw [nI_1]
          refine ih (b + 1) D2 (by omega) (fq_tr f1 f2) p2 ?_
          rw [← hs, spb, if_neg (by rw [s1]; decide)]
    have pairs : mG v allp = false → sp1 v 0 n = none → ∀ (m a : Nat) (D' : am_D) (k2 : Option Value), a + m = n → fq D D' → pm D' (vpl v) → sp2 v n a m = sp2 v n 0 n → am_Wp false 0 cdM_spareBy fnM_spareBy K 51 [some (.ref 49), some (.int (nI a)), k2] [] D' L := by
      intro z1 z2 m
      induction m with
      | zero =>
        intro a D' k2 ha hf hp hs
        refine am_Wp_bl mfM_spareBy [51] 40 _ _ _ _ _ ?_
        (repeat ((conv => whnf); (first | refine zo0 ?_ | refine zo1 ?_ | refine br_z ?_ | refine br_o ?_ | refine br_zn ?_ | refine br_on ?_ | refine nz2 ?_ | refine nz6 ?_ | refine nz32 ?_ | refine And.intro (by assumption) ?_))); (conv => whnf)
        rw [e7 D' hf]
        refine ⟨fun h1 => ?_, fun h1 => absurd (nI_le (by omega) (by omega)) h1⟩
        (repeat ((conv => whnf); (first | refine zo0 ?_ | refine zo1 ?_ | refine br_z ?_ | refine br_o ?_ | refine br_zn ?_ | refine br_on ?_ | refine nz2 ?_ | refine nz6 ?_ | refine nz32 ?_ | refine And.intro (by assumption) ?_))); (conv => whnf)
        have es : aSpare v = none := by
          unfold aSpare
          rw [if_neg (by rw [z1]; decide), en, z2]
          dsimp only
          rw [← hs]
          rfl
        have k := hK D' hf (fun n a b q => by rw [es] at q; cases q)
        rw [es] at k
        exact k
      | succ m ih =>
        intro a D' k2 ha hf hp hs
        refine am_Wp_bl mfM_spareBy [63] 40 _ _ _ _ _ ?_
        (repeat ((conv => whnf); (first | refine zo0 ?_ | refine zo1 ?_ | refine br_z ?_ | refine br_o ?_ | refine br_zn ?_ | refine br_on ?_ | refine nz2 ?_ | refine nz6 ?_ | refine nz32 ?_ | refine And.intro (by assumption) ?_))); (conv => whnf)
        rw [e7 D' hf]
        refine ⟨fun h1 => absurd h1 (nI_ge (by omega) (by omega)), fun h1 => ?_⟩
        (repeat ((conv => whnf); (first | refine zo0 ?_ | refine zo1 ?_ | refine br_z ?_ | refine br_o ?_ | refine br_zn ?_ | refine br_on ?_ | refine nz2 ?_ | refine nz6 ?_ | refine nz32 ?_ | refine And.intro (by assumption) ?_))); (conv => whnf)
        rw [nI_1]
        refine inner a (by omega) (fun D2 k2 q1 q2 q3 => ?_) (fun D2 b q1 q2 q3 q4 => ?_) (n - (a + 1)) (a + 1) D' (by omega) hf hp rfl
        · refine ih (a + 1) D2 k2 (by omega) q1 q2 ?_
          rw [← hs, sp2, q3]
        · have es : aSpare v = some (2, a, b) := by
            unfold aSpare
            rw [if_neg (by rw [z1]; decide), en, z2]
            dsimp only
            rw [← hs, sp2, q4]
          have k := hK D2 q1 (fun n a' b' q => by rw [es] at q; cases q; exact ⟨fun _ => q2, fun _ => q3⟩)
          rw [es] at k
          exact k
    have ones : mG v allp = false → ∀ (m a : Nat) (D' : am_D), a + m = n → fq D D' → pm D' (vpl v) → sp1 v a m = sp1 v 0 n → am_Wp false 0 cdM_spareBy fnM_spareBy K 16 [some (.ref 49), some (.int (nI a)), none] [] D' L := by
      intro z1 m
      induction m with
      | zero =>
        intro a D' ha hf hp hs
        refine am_Wp_bl mfM_spareBy [51] 40 _ _ _ _ _ ?_
        (repeat ((conv => whnf); (first | refine zo0 ?_ | refine zo1 ?_ | refine br_z ?_ | refine br_o ?_ | refine br_zn ?_ | refine br_on ?_ | refine nz2 ?_ | refine nz6 ?_ | refine nz32 ?_ | refine And.intro (by assumption) ?_))); (conv => whnf)
        rw [e7 D' hf]
        refine ⟨fun h1 => ?_, fun h1 => absurd (nI_le (by omega) (by omega)) h1⟩
        (repeat ((conv => whnf); (first | refine zo0 ?_ | refine zo1 ?_ | refine br_z ?_ | refine br_o ?_ | refine br_zn ?_ | refine br_on ?_ | refine nz2 ?_ | refine nz6 ?_ | refine nz32 ?_ | refine And.intro (by assumption) ?_))); (conv => whnf)
        exact pairs z1 hs.symm n 0 D' none (by omega) hf hp rfl
      | succ m ih =>
        intro a D' ha hf hp hs
        refine am_Wp_bl mfM_spareBy [16] 40 _ _ _ _ _ ?_
        (repeat ((conv => whnf); (first | refine zo0 ?_ | refine zo1 ?_ | refine br_z ?_ | refine br_o ?_ | refine br_zn ?_ | refine br_on ?_ | refine nz2 ?_ | refine nz6 ?_ | refine nz32 ?_ | refine And.intro (by assumption) ?_))); (conv => whnf)
        rw [e7 D' hf]
        refine ⟨fun h1 => absurd h1 (nI_ge (by omega) (by omega)), fun h1 => ?_⟩
        (repeat ((conv => whnf); (first | refine zo0 ?_ | refine zo1 ?_ | refine br_z ?_ | refine br_o ?_ | refine br_zn ?_ | refine br_on ?_ | refine nz2 ?_ | refine nz6 ?_ | refine nz32 ?_ | refine And.intro (by assumption) ?_))); (conv => whnf)
        rw [cl0]
        have f1 : fq D (am_up D' 70 0 (nI a)) := fq_tr hf (fq_up (by decide) fq_rf)
        refine ⟨v, but a, hv, im_fq hi f1, pm70 hp, fun j hj => prx_but a (by omega) j hj, fun D2 r f2 g70 p2 hr => ?_⟩
        rcases hr with ⟨s1, rfl⟩ | ⟨s1, rfl⟩
        · (repeat ((conv => whnf); (first | refine zo0 ?_ | refine zo1 ?_ | refine br_z ?_ | refine br_o ?_ | refine br_zn ?_ | refine br_on ?_ | refine nz2 ?_ | refine nz6 ?_ | refine nz32 ?_ | refine And.intro (by assumption) ?_))); (conv => whnf)
          have es : aSpare v = some (1, a, 0) := by
            unfold aSpare
            rw [if_neg (by rw [z1]; decide), en, ← hs, sp1, if_pos s1]
          have k := hK D2 (fq_tr f1 f2) (fun n a' b' q => by rw [es] at q; cases q; exact ⟨fun _ => by rw [g70]; simp [am_up, upd], fun q => absurd q (by decide)⟩)
          rw [es] at k
          exact k
        · (repeat ((conv => whnf); (first | refine zo0 ?_ | refine zo1 ?_ | refine br_z ?_ | refine br_o ?_ | refine br_zn ?_ | refine br_on ?_ | refine nz2 ?_ | refine nz6 ?_ | refine nz32 ?_ | refine And.intro (by assumption) ?_))); (conv => whnf)
          rw [nI_1]
          refine ih (a + 1) D2 (by omega) (fq_tr f1 f2) p2 ?_
          rw [← hs, sp1, if_neg (by rw [s1]; decide)]
    refine ⟨rfl, am_Wp_bl mfM_spareBy [16] 40 _ _ _ _ _ ?_⟩
    (repeat ((conv => whnf); (first | refine zo0 ?_ | refine zo1 ?_ | refine br_z ?_ | refine br_o ?_ | refine br_zn ?_ | refine br_on ?_ | refine nz2 ?_ | refine nz6 ?_ | refine nz32 ?_ | refine And.intro (by assumption) ?_))); (conv => whnf)
    refine ⟨v, hv, hi, fun D1 f1 r1 p1 n1 _ => ?_⟩
    (repeat ((conv => whnf); (first | refine zo0 ?_ | refine zo1 ?_ | refine br_z ?_ | refine br_o ?_ | refine br_zn ?_ | refine br_on ?_ | refine nz2 ?_ | refine nz6 ?_ | refine nz32 ?_ | refine And.intro (by assumption) ?_))); (conv => whnf)
    refine ⟨v, allp, hv, im_fq hi (fq_fa f1), p1, prx_0, fun D2 r f2 g70 p2 hr => ?_⟩
    rcases hr with ⟨s1, rfl⟩ | ⟨s1, rfl⟩
    · (repeat ((conv => whnf); (first | refine zo0 ?_ | refine zo1 ?_ | refine br_z ?_ | refine br_o ?_ | refine br_zn ?_ | refine br_on ?_ | refine nz2 ?_ | refine nz6 ?_ | refine nz32 ?_ | refine And.intro (by assumption) ?_))); (conv => whnf)
      have es : aSpare v = some (0, 0, 0) := by unfold aSpare; rw [if_pos s1]
      have k := hK D2 (fq_tr (fq_fa f1) f2) (fun n a' b' q => by rw [es] at q; cases q; exact ⟨fun q => absurd q (by decide), fun q => absurd q (by decide)⟩)
      rw [es] at k
      exact k
    · (repeat ((conv => whnf); (first | refine zo0 ?_ | refine zo1 ?_ | refine br_z ?_ | refine br_o ?_ | refine br_zn ?_ | refine br_on ?_ | refine nz2 ?_ | refine nz6 ?_ | refine nz32 ?_ | refine And.intro (by assumption) ?_))); (conv => whnf)
      exact ones s1 n 0 D2 (by omega) (fq_tr (fq_fa f1) f2) p2 rfl
  · exact absurd h id
theorem clM_spareBy (l : Launch) : ∀ (a : Nat) (ins : Instr) (b dd : Nat), csM_spareBy[a]? = some (ins, b, dd) → am_Call l yM_spareBy.cls 7 ins b dd (fnM_spareBy a) := by
  intro a ins b dd h
  match a, h with
  | 0, h => cases h; exact am_callV (T := F_11) (N := 52) (okM_asTold l) wcM_asTold (am_m5 (i := 116) rfl rfl) wiM_asTold wsM_asTold inM rfl (by decide) (by decide +kernel) (by decide) (by decide)
  | 1, h => cases h; exact am_callV (T := F_11) (N := 52) (okM_isSpared l) wcM_isSpared (am_m6 (i := 17) rfl rfl) wiM_isSpared wsM_isSpared inM rfl (by decide) (by decide +kernel) (by decide) (by decide)
  | k + 2, h => simp [csM_spareBy] at h
theorem okM_spareBy (l : Launch) : am_Ok l yM_spareBy prog_13_method_63_code 3 (some .int) 7 spM_spareBy := am_ok_of (by decide +kernel) flM_ok kiM_ok klM_ok ckM_spareBy (clM_spareBy l) wpM_spareBy
