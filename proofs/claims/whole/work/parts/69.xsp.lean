def fnQ_keep : Nat → am_Sp := fun _ => am_no
theorem mfQ_keep : ∀ a, am_mono (fnQ_keep a) := fun _ => am_no_mono
def spQ_keep : am_Sp := am_ini cdQ_keep fnQ_keep 16 4
theorem moQ_keep : am_mono spQ_keep := am_ini_mono mfQ_keep
theorem wpQ_keep : ∀ (as : List Value) (D : am_D) (L : am_L) (K : am_K), spQ_keep as D L K → am_fit 4 as = true ∧ am_Wp false 0 cdQ_keep fnQ_keep K 0 (am_lo 4 as) [] D L := am_ini_Wp mfQ_keep
theorem clQ_keep (l : Launch) : ∀ (a : Nat) (ins : Instr) (b dd : Nat), csQ_keep[a]? = some (ins, b, dd) → am_Call l yQ_keep.cls 0 ins b dd (fnQ_keep a) := by
  intro a ins b dd h
  match a, h with
  | k + 0, h => simp [csQ_keep] at h
theorem okQ_keep (l : Launch) : am_Ok l yQ_keep prog_9_method_2_code 4 none 0 spQ_keep := am_ok_of (by decide +kernel) flQ_ok kiQ_ok klQ_ok ckQ_keep (clQ_keep l) wpQ_keep
def fnX_isWellWithout : Nat → am_Sp := fun a => match a with
  | 0 => spP_take
  | 1 => spW_run
  | 2 => spW_lacking
  | _ => am_no
theorem mfX_isWellWithout : ∀ a, am_mono (fnX_isWellWithout a) := fun a => match a with
  | 0 => moP_take
  | 1 => moW_run
  | 2 => moW_lacking
  | _ + 3 => am_no_mono
def spX_isWellWithout : am_Sp := fun as D L K => match as with
  | [.ref 0, .int x] => ∃ (v : vs_T) (pr : Nat → Bool), vok v ∧ prx x pr ∧ ib D v ∧ iw D ∧ ∀ (D' : am_D) (r : Int32), fr 18 26 D D' → iw D' → ((mG v pr = true ∧ r = 1) ∨ (mG v pr = false ∧ r = 0)) → K (some (.int r)) D' L
  | _ => False
theorem moX_isWellWithout : am_mono spX_isWellWithout := by
  intro as D L K K' hK h
  unfold spX_isWellWithout at h ⊢
  split at h
  · obtain ⟨z0, z1, z2, z3, z4, z5, hz⟩ := h
    exact ⟨z0, z1, z2, z3, z4, z5, fun D' r q1 q2 q3 => hK _ _ _ (hz D' r q1 q2 q3)⟩
  · exact h
theorem wpX_isWellWithout : ∀ (as : List Value) (D : am_D) (L : am_L) (K : am_K), spX_isWellWithout as D L K → am_fit 2 as = true ∧ am_Wp false 0 cdX_isWellWithout fnX_isWellWithout K 0 (am_lo 2 as) [] D L := by
  intro as D L K h
  unfold spX_isWellWithout at h
  split at h
  · rename_i x
    obtain ⟨v, pr, hv, hpr, hib, hw, hK⟩ := h
    have hP := vpl_ok hv
    have hE := vev_ok hv
    refine ⟨rfl, am_Wp_bl mfX_isWellWithout [] 60 _ _ _ _ _ ?_⟩
    (repeat ((conv => whnf); (first | refine zo0 ?_ | refine zo1 ?_ | refine br_z ?_ | refine br_o ?_ | refine br_zn ?_ | refine br_on ?_ | refine nz2 ?_ | refine nz6 ?_ | refine nz32 ?_ | refine And.intro (by assumption) ?_))); (conv => whnf)
    refine ⟨vpl v, hib.2.1.1, fun D1 f1 p1 a1 => ?_⟩
    have px1 := pxA x p1
    (repeat ((conv => whnf); (first | refine zo0 ?_ | refine zo1 ?_ | refine br_z ?_ | refine br_o ?_ | refine br_zn ?_ | refine br_on ?_ | refine nz2 ?_ | refine nz6 ?_ | refine nz32 ?_ | refine And.intro (by assumption) ?_))); (conv => whnf)
    refine ⟨vpl v, vev v, pr, Or.inr rfl, hP, hE, px1, ex_fr (ex_ie hib.2.2.1 hv) ((am_up_ne (by decide)).trans (f1 _ (by omega))) ((am_up_ne (by decide)).trans (f1 _ (by omega))) ((am_up_ne (by decide)).trans (f1 _ (by omega))) ((am_up_ne (by decide)).trans (f1 _ (by omega))), by rw [ap, if_pos rfl, if_pos rfl]; exact hpr, iw_fr hw (fun k _ _ => (am_up_ne (by omega)).trans (f1 k (by omega))), fun D2 g f2 w2 t2 => ?_⟩
    have px2 := px_fr4 px1 f2 (by decide)
    have fa : fr 18 26 D D2 := fun k hk => (f2 k (by omega)).trans ((am_up_ne (by omega)).trans (f1 k (by omega)))
    have e15 : D2 22 15 = nI (mw_run (vpl v) (vev v) pr 48 0 10) := w2.2.2.2.2.2.2.2.2.2.2.2.1
    have kt : mG v pr = true → K (some (.int 1)) D2 L := fun e => hK D2 1 fa ⟨_, g, w2⟩ (Or.inl ⟨e, rfl⟩)
    have kf : mG v pr = false → K (some (.int 0)) D2 L := fun e => hK D2 0 fa ⟨_, g, w2⟩ (Or.inr ⟨e, rfl⟩)
    (repeat ((conv => whnf); (first | refine zo0 ?_ | refine zo1 ?_ | refine br_z ?_ | refine br_o ?_ | refine br_zn ?_ | refine br_on ?_ | refine nz2 ?_ | refine nz6 ?_ | refine nz32 ?_ | refine And.intro (by assumption) ?_))); (conv => whnf)
    rw [e15]
    refine ⟨fun h1 => ?_, fun h1 => ?_⟩
    · have kk := kf (by unfold mG; rw [decide_eq_false h1, Bool.and_false])
      (repeat ((conv => whnf); (first | refine zo0 ?_ | refine zo1 ?_ | refine br_z ?_ | refine br_o ?_ | refine br_zn ?_ | refine br_on ?_ | refine nz2 ?_ | refine nz6 ?_ | refine nz32 ?_ | refine And.intro (by assumption) ?_))); (conv => whnf)
      exact kk
    (repeat ((conv => whnf); (first | refine zo0 ?_ | refine zo1 ?_ | refine br_z ?_ | refine br_o ?_ | refine br_zn ?_ | refine br_on ?_ | refine nz2 ?_ | refine nz6 ?_ | refine nz32 ?_ | refine And.intro (by assumption) ?_))); (conv => whnf)
    refine ⟨vpl v, _, g, 48, Or.inr rfl, hP, mw_run_ok hP hE 48, px2, w2, ?_⟩
    (repeat ((conv => whnf); (first | refine zo0 ?_ | refine zo1 ?_ | refine br_z ?_ | refine br_o ?_ | refine br_zn ?_ | refine br_on ?_ | refine nz2 ?_ | refine nz6 ?_ | refine nz32 ?_ | refine And.intro (by assumption) ?_))); (conv => whnf)
    refine ⟨fun h2 => ?_, fun h2 => ?_⟩
    · have kk := kf (by unfold mG; rw [decide_eq_false h2, Bool.false_and])
      (repeat ((conv => whnf); (first | refine zo0 ?_ | refine zo1 ?_ | refine br_z ?_ | refine br_o ?_ | refine br_zn ?_ | refine br_on ?_ | refine nz2 ?_ | refine nz6 ?_ | refine nz32 ?_ | refine And.intro (by assumption) ?_))); (conv => whnf)
      exact kk
    · have kk := kt (by unfold mG; rw [decide_eq_true h2, decide_eq_true h1]; rfl)
      (repeat ((conv => whnf); (first | refine zo0 ?_ | refine zo1 ?_ | refine br_z ?_ | refine br_o ?_ | refine br_zn ?_ | refine br_on ?_ | refine nz2 ?_ | refine nz6 ?_ | refine nz32 ?_ | refine And.intro (by assumption) ?_))); (conv => whnf)
      exact kk
  · exact absurd h id
theorem clX_isWellWithout (l : Launch) : ∀ (a : Nat) (ins : Instr) (b dd : Nat), csX_isWellWithout[a]? = some (ins, b, dd) → am_Call l yX_isWellWithout.cls 4 ins b dd (fnX_isWellWithout a) := by
  intro a ins b dd h
  match a, h with
  | 0, h => cases h; exact am_callV (T := F_4) (N := 8) (okP_take l) wcP_take (am_m3 (i := 122) rfl rfl) wiP_take wsP_take inP rfl (by decide) (by decide +kernel) (by decide) (by decide)
  | 1, h => cases h; exact am_callV (T := F_9) (N := 17) (okW_run l) wcW_run (am_m3 (i := 22) rfl rfl) wiW_run wsW_run inW rfl (by decide) (by decide +kernel) (by decide) (by decide)
  | 2, h => cases h; exact am_callV (T := F_9) (N := 17) (okW_lacking l) wcW_lacking (am_m3 (i := 175) rfl rfl) wiW_lacking wsW_lacking inW rfl (by decide) (by decide +kernel) (by decide) (by decide)
  | k + 3, h => simp [csX_isWellWithout] at h
theorem okX_isWellWithout (l : Launch) : am_Ok l yX_isWellWithout prog_1_method_52_code 2 (some .boolean) 4 spX_isWellWithout := am_ok_of (by decide +kernel) flX_ok kiX_ok klX_ok ckX_isWellWithout (clX_isWellWithout l) wpX_isWellWithout
def fnX_learnSpared : Nat → am_Sp := fun a => match a with
  | 0 => spQ_keep
  | 1 => spX_isWellWithout
  | _ => am_no
theorem mfX_learnSpared : ∀ a, am_mono (fnX_learnSpared a) := fun a => match a with
  | 0 => moQ_keep
  | 1 => moX_isWellWithout
  | _ + 2 => am_no_mono
def ocp (D : am_D) (n x y : Int32) : Prop := D 35 0 = n ∧ D 35 1 = x ∧ D 35 2 = y ∧ D 35 3 = 1
theorem ocp_keep (D : am_D) (a b c : Int32) : ocp (am_up (am_up (am_up (am_up D 35 0 a) 35 1 b) 35 2 c) 35 3 1) a b c := by
  refine ⟨?_, ?_, ?_, ?_⟩ <;> simp [ap]
def spX_learnSpared : am_Sp := fun as D L K => match as with
  | [.ref 0] => ∃ v : vs_T, vok v ∧ ix D v ∧ ∀ D', fc D D' → ix D' v → ocp D' (spN (aSpare v)) (spI (aSpare v) 0) (spI (aSpare v) 1) → K none D' L
  | _ => False
theorem moX_learnSpared : am_mono spX_learnSpared := by
  intro as D L K K' hK h
  unfold spX_learnSpared at h ⊢
  split at h
  · obtain ⟨z0, z1, z2, hz⟩ := h
    exact ⟨z0, z1, z2, fun D' q1 q2 q3 => hK _ _ _ (hz D' q1 q2 q3)⟩
  · exact h
theorem wpX_learnSpared : ∀ (as : List Value) (D : am_D) (L : am_L) (K : am_K), spX_learnSpared as D L K → am_fit 3 as = true ∧ am_Wp false 0 cdX_learnSpared fnX_learnSpared K 0 (am_lo 3 as) [] D L := by
  intro as D L K h
  unfold spX_learnSpared at h
  split at h
  · obtain ⟨v, hv, hi, hK⟩ := h
    obtain ⟨hib, ⟨c1, c2, c3, c4, c5, c6⟩, hw⟩ := hi
    obtain ⟨e0, e1⟩ := vok_ev hv
    have q3 : D 7 3 = nI (vn v 0 6) := hib.2.2.1.1.trans e0
    have fin : ∀ (D' : am_D) (o : Option (Nat × Nat × Nat)), (∀ k, k < 18 ∨ (26 < k ∧ k ≠ 35) → D' k = D k) → iw D' → aSpare v = o → ocp D' (spN o) (spI o 0) (spI o 1) → K none D' L := fun D' o f w e q => by
      rw [← e] at q
      have F : ∀ k, 26 < k → k ≠ 35 → D' k = D k := fun k h1 h2 => f k (by omega)
      exact hK D' (fun k hk => f k (by omega)) ⟨ib_fr hib (fun k hk => f k (by omega)), ⟨icd_fr c1 (fun k _ _ => F k (by omega) (by omega)), ich_fr c2 (F _ (by omega) (by omega)), icr_fr c3 (F _ (by omega) (by omega)), ics_fr c4 (F _ (by omega) (by omega)), Or.inr ⟨q.2.2.2, q.1, q.2.1, q.2.2.1⟩, icc_fr c6 (F _ (by omega) (by omega)) (F _ (by omega) (by omega))⟩, w⟩ q
    have eS : aSpare v = if mG v allp = true then some (0, 0, 0) else match sp1 v 0 (vn v 0 6) with
      | some a => some (1, a, 0)
      | none => match sp2 v (vn v 0 6) 0 (vn v 0 6) with
        | some (a, b) => some (2, a, b)
        | none => none := rfl
    obtain ⟨n, en⟩ : ∃ n, vn v 0 6 = n := ⟨_, rfl⟩
    rw [en] at q3 eS e1
    have ki : ∀ D', (∀ k, k < 18 ∨ (26 < k ∧ k ≠ 35) → D' k = D k) → ib D' v := fun D' f => ib_fr hib (fun k hk => f k (by omega))
    have inner : ∀ (a : Nat), a < n → mG v allp = false → sp1 v 0 n = none → (∀ (R : Option (Nat × Nat)), sp2 v n 0 n = R → R = sp2 v n 0 n) → (∀ b, spb v a (a + 1) (n - (a + 1)) = some b → sp2 v n 0 n = some (a, b)) →
        (spb v a (a + 1) (n - (a + 1)) = none → ∀ (D' : am_D) (k2 : Option Value), (∀ k, k < 18 ∨ (26 < k ∧ k ≠ 35) → D' k = D k) → iw D' → ocp D' (-1) (-1) (-1) → am_Wp false 0 cdX_learnSpared fnX_learnSpared K 71 [some (.ref 0), some (.int (nI (a + 1))), k2] [] D' L) →
        ∀ (m b : Nat) (D' : am_D), b + m = n → spb v a b m = spb v a (a + 1) (n - (a + 1)) → (∀ k, k < 18 ∨ (26 < k ∧ k ≠ 35) → D' k = D k) → iw D' → ocp D' (-1) (-1) (-1) → am_Wp false 0 cdX_learnSpared fnX_learnSpared K 86 [some (.ref 0), some (.int (nI a)), some (.int (nI b))] [] D' L := by
      intro a ha g0 s1 _ hsome hnone m
      induction m with
      | zero =>
        intro b D' hm hb hf hw' ho
        refine am_Wp_bl mfX_learnSpared [71, 86] 40 _ _ _ _ _ ?_
        (repeat ((conv => whnf); (first | refine zo0 ?_ | refine zo1 ?_ | refine br_z ?_ | refine br_o ?_ | refine br_zn ?_ | refine br_on ?_ | refine nz2 ?_ | refine nz6 ?_ | refine nz32 ?_ | refine And.intro (by assumption) ?_))); (conv => whnf)
        rw [hf 7 (by omega), q3]
        refine ⟨fun h1 => ?_, fun h1 => absurd (nI_le (by omega) (by omega)) h1⟩
        (repeat ((conv => whnf); (first | refine zo0 ?_ | refine zo1 ?_ | refine br_z ?_ | refine br_o ?_ | refine br_zn ?_ | refine br_on ?_ | refine nz2 ?_ | refine nz6 ?_ | refine nz32 ?_ | refine And.intro (by assumption) ?_))); (conv => whnf)
        rw [nI_1]
        exact hnone hb.symm D' _ hf hw' ho
      | succ m ih =>
        intro b D' hm hb hf hw' ho
        refine am_Wp_bl mfX_learnSpared [71, 86] 80 _ _ _ _ _ ?_
        (repeat ((conv => whnf); (first | refine zo0 ?_ | refine zo1 ?_ | refine br_z ?_ | refine br_o ?_ | refine br_zn ?_ | refine br_on ?_ | refine nz2 ?_ | refine nz6 ?_ | refine nz32 ?_ | refine And.intro (by assumption) ?_))); (conv => whnf)
        rw [hf 7 (by omega), q3]
        refine ⟨fun h1 => absurd h1 (nI_ge (by omega) (by omega)), fun h1 => ?_⟩
        (repeat ((conv => whnf); (first | refine zo0 ?_ | refine zo1 ?_ | refine br_z ?_ | refine br_o ?_ | refine br_zn ?_ | refine br_on ?_ | refine nz2 ?_ | refine nz6 ?_ | refine nz32 ?_ | refine And.intro (by assumption) ?_))); (conv => whnf)
        refine ⟨v, but2 a b, hv, prx_but2 a (by omega) b (by omega), ki D' hf, hw', fun D1 r f1 w1 hr => ?_⟩
        have g1 : ∀ k, k < 18 ∨ (26 < k ∧ k ≠ 35) → D1 k = D k := fun k hk => (f1 k (by omega)).trans (hf k hk)
        have o1 : D1 35 = D' 35 := f1 35 (by omega)
        rcases hr with ⟨t1, rfl⟩ | ⟨t1, rfl⟩
        · have es := hsome b (by rw [← hb, spb, if_pos t1])
          (repeat ((conv => whnf); (first | refine zo0 ?_ | refine zo1 ?_ | refine br_z ?_ | refine br_o ?_ | refine br_zn ?_ | refine br_on ?_ | refine nz2 ?_ | refine nz6 ?_ | refine nz32 ?_ | refine And.intro (by assumption) ?_))); (conv => whnf)
          refine fin _ (some (2, a, b)) (fun k hk => by rw [am_up_ne (by omega), am_up_ne (by omega), am_up_ne (by omega), am_up_ne (by omega)]; exact g1 k hk) (iw_fr w1 (fun k _ _ => by rw [am_up_ne (by omega), am_up_ne (by omega), am_up_ne (by omega), am_up_ne (by omega)])) ?_ (ocp_keep D1 _ _ _)
          rw [eS, if_neg (by rw [g0]; decide), s1, es]
        · (repeat ((conv => whnf); (first | refine zo0 ?_ | refine zo1 ?_ | refine br_z ?_ | refine br_o ?_ | refine br_zn ?_ | refine br_on ?_ | refine nz2 ?_ | refine nz6 ?_ | refine nz32 ?_ | refine And.intro (by assumption) ?_))); (conv => whnf)
          rw [nI_1]
          refine ih (b + 1) D1 (by omega) ?_ g1 w1 (by unfold ocp; rw [o1]; exact ho)
          rw [← hb, spb, if_neg (by rw [t1]; decide)]
    have two : mG v allp = false → sp1 v 0 n = none → ∀ (m a : Nat) (D' : am_D) (k2 : Option Value), a + m = n → sp2 v n a m = sp2 v n 0 n → (∀ k, k < 18 ∨ (26 < k ∧ k ≠ 35) → D' k = D k) → iw D' → ocp D' (-1) (-1) (-1) → am_Wp false 0 cdX_learnSpared fnX_learnSpared K 71 [some (.ref 0), some (.int (nI a)), k2] [] D' L := by
      intro g0 s1 m
      induction m with
      | zero =>
        intro a D' k2 hm ha hf hw' ho
        refine am_Wp_bl mfX_learnSpared [71] 40 _ _ _ _ _ ?_
        (repeat ((conv => whnf); (first | refine zo0 ?_ | refine zo1 ?_ | refine br_z ?_ | refine br_o ?_ | refine br_zn ?_ | refine br_on ?_ | refine nz2 ?_ | refine nz6 ?_ | refine nz32 ?_ | refine And.intro (by assumption) ?_))); (conv => whnf)
        rw [hf 7 (by omega), q3]
        refine ⟨fun h1 => ?_, fun h1 => absurd (nI_le (by omega) (by omega)) h1⟩
        (repeat ((conv => whnf); (first | refine zo0 ?_ | refine zo1 ?_ | refine br_z ?_ | refine br_o ?_ | refine br_zn ?_ | refine br_on ?_ | refine nz2 ?_ | refine nz6 ?_ | refine nz32 ?_ | refine And.intro (by assumption) ?_))); (conv => whnf)
        refine fin D' none hf hw' ?_ ho
        rw [eS, if_neg (by rw [g0]; decide), s1, ← ha]
        rfl
      | succ m ih =>
        intro a D' k2 hm ha hf hw' ho
        have es2 : sp2 v n a (m + 1) = match spb v a (a + 1) (n - (a + 1)) with
          | some b => some (a, b)
          | none => sp2 v n (a + 1) m := rfl
        refine am_Wp_bl mfX_learnSpared [71, 86] 40 _ _ _ _ _ ?_
        (repeat ((conv => whnf); (first | refine zo0 ?_ | refine zo1 ?_ | refine br_z ?_ | refine br_o ?_ | refine br_zn ?_ | refine br_on ?_ | refine nz2 ?_ | refine nz6 ?_ | refine nz32 ?_ | refine And.intro (by assumption) ?_))); (conv => whnf)
        rw [hf 7 (by omega), q3]
        refine ⟨fun h1 => absurd h1 (nI_ge (by omega) (by omega)), fun h1 => ?_⟩
        (repeat ((conv => whnf); (first | refine zo0 ?_ | refine zo1 ?_ | refine br_z ?_ | refine br_o ?_ | refine br_zn ?_ | refine br_on ?_ | refine nz2 ?_ | refine nz6 ?_ | refine nz32 ?_ | refine And.intro (by assumption) ?_))); (conv => whnf)
        rw [nI_1]
        refine inner a (by omega) g0 s1 (fun R hR => hR.symm) (fun b hb => ?_) (fun hb D2 k3 f2 w2 o2 => ?_) (n - (a + 1)) (a + 1) D' (by omega) rfl hf hw' ho
        · rw [← ha, es2, hb]
        · refine ih (a + 1) D2 k3 (by omega) ?_ f2 w2 o2
          rw [← ha, es2, hb]
    have one : mG v allp = false → ∀ (m a : Nat) (D' : am_D) (k2 : Option Value), a + m = n → sp1 v a m = sp1 v 0 n → (∀ k, k < 18 ∨ (26 < k ∧ k ≠ 35) → D' k = D k) → iw D' → ocp D' (-1) (-1) (-1) → am_Wp false 0 cdX_learnSpared fnX_learnSpared K 31 [some (.ref 0), some (.int (nI a)), k2] [] D' L := by
      intro g0 m
      induction m with
      | zero =>
        intro a D' k2 hm ha hf hw' ho
        refine am_Wp_bl mfX_learnSpared [31, 71] 40 _ _ _ _ _ ?_
        (repeat ((conv => whnf); (first | refine zo0 ?_ | refine zo1 ?_ | refine br_z ?_ | refine br_o ?_ | refine br_zn ?_ | refine br_on ?_ | refine nz2 ?_ | refine nz6 ?_ | refine nz32 ?_ | refine And.intro (by assumption) ?_))); (conv => whnf)
        rw [hf 7 (by omega), q3]
        refine ⟨fun h1 => ?_, fun h1 => absurd (nI_le (by omega) (by omega)) h1⟩
        (repeat ((conv => whnf); (first | refine zo0 ?_ | refine zo1 ?_ | refine br_z ?_ | refine br_o ?_ | refine br_zn ?_ | refine br_on ?_ | refine nz2 ?_ | refine nz6 ?_ | refine nz32 ?_ | refine And.intro (by assumption) ?_))); (conv => whnf)
        exact two g0 ha.symm n 0 D' _ (by omega) rfl hf hw' ho
      | succ m ih =>
        intro a D' k2 hm ha hf hw' ho
        refine am_Wp_bl mfX_learnSpared [31, 71] 80 _ _ _ _ _ ?_
        (repeat ((conv => whnf); (first | refine zo0 ?_ | refine zo1 ?_ | refine br_z ?_ | refine br_o ?_ | refine br_zn ?_ | refine br_on ?_ | refine nz2 ?_ | refine nz6 ?_ | refine nz32 ?_ | refine And.intro (by assumption) ?_))); (conv => whnf)
        rw [hf 7 (by omega), q3]
        refine ⟨fun h1 => absurd h1 (nI_ge (by omega) (by omega)), fun h1 => ?_⟩
        (repeat ((conv => whnf); (first | refine zo0 ?_ | refine zo1 ?_ | refine br_z ?_ | refine br_o ?_ | refine br_zn ?_ | refine br_on ?_ | refine nz2 ?_ | refine nz6 ?_ | refine nz32 ?_ | refine And.intro (by assumption) ?_))); (conv => whnf)
        refine ⟨v, but a, hv, prx_but a (by omega), ki D' hf, hw', fun D1 r f1 w1 hr => ?_⟩
        have g1 : ∀ k, k < 18 ∨ (26 < k ∧ k ≠ 35) → D1 k = D k := fun k hk => (f1 k (by omega)).trans (hf k hk)
        have o1 : D1 35 = D' 35 := f1 35 (by omega)
        rcases hr with ⟨t1, rfl⟩ | ⟨t1, rfl⟩
        · have es : sp1 v 0 n = some a := by rw [← ha, sp1, if_pos t1]
          (repeat ((conv => whnf); (first | refine zo0 ?_ | refine zo1 ?_ | refine br_z ?_ | refine br_o ?_ | refine br_zn ?_ | refine br_on ?_ | refine nz2 ?_ | refine nz6 ?_ | refine nz32 ?_ | refine And.intro (by assumption) ?_))); (conv => whnf)
          refine fin _ (some (1, a, 0)) (fun k hk => by rw [am_up_ne (by omega), am_up_ne (by omega), am_up_ne (by omega), am_up_ne (by omega)]; exact g1 k hk) (iw_fr w1 (fun k _ _ => by rw [am_up_ne (by omega), am_up_ne (by omega), am_up_ne (by omega), am_up_ne (by omega)])) ?_ (ocp_keep D1 _ _ _)
          rw [eS, if_neg (by rw [g0]; decide), es]
        · (repeat ((conv => whnf); (first | refine zo0 ?_ | refine zo1 ?_ | refine br_z ?_ | refine br_o ?_ | refine br_zn ?_ | refine br_on ?_ | refine nz2 ?_ | refine nz6 ?_ | refine nz32 ?_ | refine And.intro (by assumption) ?_))); (conv => whnf)
          rw [nI_1]
          refine ih (a + 1) D1 _ (by omega) ?_ g1 w1 (by unfold ocp; rw [o1]; exact ho)
          rw [← ha, sp1, if_neg (by rw [t1]; decide)]
    refine ⟨rfl, am_Wp_bl mfX_learnSpared [31] 80 _ _ _ _ _ ?_⟩
    (repeat ((conv => whnf); (first | refine zo0 ?_ | refine zo1 ?_ | refine br_z ?_ | refine br_o ?_ | refine br_zn ?_ | refine br_on ?_ | refine nz2 ?_ | refine nz6 ?_ | refine nz32 ?_ | refine And.intro (by assumption) ?_))); (conv => whnf)
    obtain ⟨D0, hD0⟩ : ∃ D0, am_up (am_up (am_up (am_up D 35 0 (-1)) 35 1 (-1)) 35 2 (-1)) 35 3 1 = D0 := ⟨_, rfl⟩
    rw [hD0]
    have o0 : ocp D0 (-1) (-1) (-1) := by rw [← hD0]; exact ocp_keep D _ _ _
    have g0 : ∀ k, k ≠ 35 → D0 k = D k := fun k hk => by rw [← hD0, am_up_ne hk, am_up_ne hk, am_up_ne hk, am_up_ne hk]
    refine ⟨v, allp, hv, prx_0, ki D0 (fun k hk => g0 k (by omega)), iw_fr hw (fun k _ _ => g0 k (by omega)), fun D1 r f1 w1 hr => ?_⟩
    have g1 : ∀ k, k < 18 ∨ (26 < k ∧ k ≠ 35) → D1 k = D k := fun k hk => (f1 k (by omega)).trans (g0 k (by omega))
    have o1 : D1 35 = D0 35 := f1 35 (by omega)
    rcases hr with ⟨t1, rfl⟩ | ⟨t1, rfl⟩
    · (repeat ((conv => whnf); (first | refine zo0 ?_ | refine zo1 ?_ | refine br_z ?_ | refine br_o ?_ | refine br_zn ?_ | refine br_on ?_ | refine nz2 ?_ | refine nz6 ?_ | refine nz32 ?_ | refine And.intro (by assumption) ?_))); (conv => whnf)
      refine fin _ (some (0, 0, 0)) (fun k hk => by rw [am_up_ne (by omega), am_up_ne (by omega), am_up_ne (by omega), am_up_ne (by omega)]; exact g1 k hk) (iw_fr w1 (fun k _ _ => by rw [am_up_ne (by omega), am_up_ne (by omega), am_up_ne (by omega), am_up_ne (by omega)])) ?_ (ocp_keep D1 _ _ _)
      rw [eS, if_pos t1]
    · (repeat ((conv => whnf); (first | refine zo0 ?_ | refine zo1 ?_ | refine br_z ?_ | refine br_o ?_ | refine br_zn ?_ | refine br_on ?_ | refine nz2 ?_ | refine nz6 ?_ | refine nz32 ?_ | refine And.intro (by assumption) ?_))); (conv => whnf)
      exact one t1 n 0 D1 none (by omega) rfl g1 w1 (by unfold ocp; rw [o1]; exact o0)
  · exact absurd h id
theorem clX_learnSpared (l : Launch) : ∀ (a : Nat) (ins : Instr) (b dd : Nat), csX_learnSpared[a]? = some (ins, b, dd) → am_Call l yX_learnSpared.cls 5 ins b dd (fnX_learnSpared a) := by
  intro a ins b dd h
  match a, h with
  | 0, h => cases h; exact am_callV (T := F_7) (N := 4) (okQ_keep l) wcQ_keep (am_m3 (i := 167) rfl rfl) wiQ_keep wsQ_keep inQ rfl (by decide) (by decide +kernel) (by decide) (by decide)
  | 1, h => cases h; exact am_callV (T := F_10) (N := 17) (okX_isWellWithout l) wcX_isWellWithout (am_m3 (i := 171) rfl rfl) wiX_isWellWithout wsX_isWellWithout inX rfl (by decide) (by decide +kernel) (by decide) (by decide)
  | k + 2, h => simp [csX_learnSpared] at h
theorem okX_learnSpared (l : Launch) : am_Ok l yX_learnSpared prog_1_method_51_code 3 none 5 spX_learnSpared := am_ok_of (by decide +kernel) flX_ok kiX_ok klX_ok ckX_learnSpared (clX_learnSpared l) wpX_learnSpared
def fnX_spare : Nat → am_Sp := fun a => match a with
  | 0 => spX_learnSpared
  | _ => am_no
theorem mfX_spare : ∀ a, am_mono (fnX_spare a) := fun a => match a with
  | 0 => moX_learnSpared
  | _ + 1 => am_no_mono
def spX_spare : am_Sp := fun as D L K => match as with
  | [.ref 0, .int x] => ∃ v : vs_T, vok v ∧ ix D v ∧ ∀ (D' : am_D) (L' : am_L), fc D D' → ix D' v → K (some (.int (qSpare v x))) D' L'
  | _ => False
theorem moX_spare : am_mono spX_spare := by
  intro as D L K K' hK h
  unfold spX_spare at h ⊢
  split at h
  · obtain ⟨z0, z1, z2, hz⟩ := h
    exact ⟨z0, z1, z2, fun D' L' q1 q2 => hK _ _ _ (hz D' L' q1 q2)⟩
  · exact h
theorem wpX_spare : ∀ (as : List Value) (D : am_D) (L : am_L) (K : am_K), spX_spare as D L K → am_fit 2 as = true ∧ am_Wp false 0 cdX_spare fnX_spare K 0 (am_lo 2 as) [] D L := by
  intro as D L K h
  unfold spX_spare at h
  split at h
  · rename_i x
    obtain ⟨v, hv, hi, hK⟩ := h
    have kb : ¬ ((-1 ≤ x ∧ x ≤ 1)) → K (some (.int (-2))) D L := fun q => by
      have k := hK D L fc_rf
      unfold qSpare at k
      by_cases c0 : (-1 ≤ x ∧ x ≤ 1)
      · exact absurd c0 q
      · rw [if_neg c0] at k
        exact k hi
    have fin : (-1 ≤ x ∧ x ≤ 1) → ∀ (D' : am_D), fc D D' → ix D' v → ocp D' (spN (aSpare v)) (spI (aSpare v) 0) (spI (aSpare v) 1) → am_Wp false 0 cdX_spare fnX_spare K 27 [some (.ref 0), some (.int x)] [] D' L := by
      intro hx D' f1 i1 o1
      have k := hK D' L f1 i1
      unfold qSpare at k
      rw [if_pos hx] at k
      refine am_Wp_bl mfX_spare [] 40 _ _ _ _ _ ?_
      (repeat ((conv => whnf); (first | refine zo0 ?_ | refine zo1 ?_ | refine br_z ?_ | refine br_o ?_ | refine br_zn ?_ | refine br_on ?_ | refine nz2 ?_ | refine nz6 ?_ | refine nz32 ?_ | refine And.intro (by assumption) ?_))); (conv => whnf)
      refine ⟨fun h1 => ?_, fun h1 => ?_⟩
      · rw [if_neg h1] at k
        have h0 : 0 ≤ x := by
          rw [Int32.le_iff_toInt_le] at hx ⊢
          have q := hx.1
          have e' : x.toInt ≠ (-1 : Int32).toInt := fun q => h1 (Int32.toInt_inj.mp q)
          have e1 : (-1 : Int32).toInt = -1 := by decide
          have e0 : (0 : Int32).toInt = 0 := by decide
          omega
        obtain ⟨j, hj, ej⟩ := rg_nI (n := 1) (by decide) ⟨h0, hx.2⟩
        rcases (show j = 0 ∨ j = 1 by omega) with rfl | rfl
        · have ex : x = 0 := ej.trans nI_0
          subst ex
          rw [cN_0] at k
          (repeat ((conv => whnf); (first | refine zo0 ?_ | refine zo1 ?_ | refine br_z ?_ | refine br_o ?_ | refine br_zn ?_ | refine br_on ?_ | refine nz2 ?_ | refine nz6 ?_ | refine nz32 ?_ | refine And.intro (by assumption) ?_))); (conv => whnf)
          rw [o1.2.1]
          exact k
        · have ex : x = 1 := ej.trans nc1
          subst ex
          rw [cN_1] at k
          (repeat ((conv => whnf); (first | refine zo0 ?_ | refine zo1 ?_ | refine br_z ?_ | refine br_o ?_ | refine br_zn ?_ | refine br_on ?_ | refine nz2 ?_ | refine nz6 ?_ | refine nz32 ?_ | refine And.intro (by assumption) ?_))); (conv => whnf)
          rw [o1.2.2.1]
          exact k
      · rw [if_pos h1] at k
        (repeat ((conv => whnf); (first | refine zo0 ?_ | refine zo1 ?_ | refine br_z ?_ | refine br_o ?_ | refine br_zn ?_ | refine br_on ?_ | refine nz2 ?_ | refine nz6 ?_ | refine nz32 ?_ | refine And.intro (by assumption) ?_))); (conv => whnf)
        rw [o1.1]
        exact k
    refine ⟨rfl, am_Wp_bl mfX_spare [27] 80 _ _ _ _ _ ?_⟩
    (repeat ((conv => whnf); (first | refine zo0 ?_ | refine zo1 ?_ | refine br_z ?_ | refine br_o ?_ | refine br_zn ?_ | refine br_on ?_ | refine nz2 ?_ | refine nz6 ?_ | refine nz32 ?_ | refine And.intro (by assumption) ?_))); (conv => whnf)
    refine ⟨fun h1 => ?_, fun h1 => ?_⟩
    · (repeat ((conv => whnf); (first | refine zo0 ?_ | refine zo1 ?_ | refine br_z ?_ | refine br_o ?_ | refine br_zn ?_ | refine br_on ?_ | refine nz2 ?_ | refine nz6 ?_ | refine nz32 ?_ | refine And.intro (by assumption) ?_))); (conv => whnf)
      exact kb (rn0 h1)
    (repeat ((conv => whnf); (first | refine zo0 ?_ | refine zo1 ?_ | refine br_z ?_ | refine br_o ?_ | refine br_zn ?_ | refine br_on ?_ | refine nz2 ?_ | refine nz6 ?_ | refine nz32 ?_ | refine And.intro (by assumption) ?_))); (conv => whnf)
    refine ⟨fun h2 => ?_, fun h2 => ?_⟩
    rotate_left
    · (repeat ((conv => whnf); (first | refine zo0 ?_ | refine zo1 ?_ | refine br_z ?_ | refine br_o ?_ | refine br_zn ?_ | refine br_on ?_ | refine nz2 ?_ | refine nz6 ?_ | refine nz32 ?_ | refine And.intro (by assumption) ?_))); (conv => whnf)
      exact kb (rn2 h2)
    have hx : -1 ≤ x ∧ x ≤ 1 := ⟨Int32.not_lt.mp h1, h2⟩
    (repeat ((conv => whnf); (first | refine zo0 ?_ | refine zo1 ?_ | refine br_z ?_ | refine br_o ?_ | refine br_zn ?_ | refine br_on ?_ | refine nz2 ?_ | refine nz6 ?_ | refine nz32 ?_ | refine And.intro (by assumption) ?_))); (conv => whnf)
    refine ⟨fun h3 => ?_, fun h3 => ?_⟩
    · rcases hi.2.1.2.2.2.2.1 with q | q
      · exact absurd q h3
      · (repeat ((conv => whnf); (first | refine zo0 ?_ | refine zo1 ?_ | refine br_z ?_ | refine br_o ?_ | refine br_zn ?_ | refine br_on ?_ | refine nz2 ?_ | refine nz6 ?_ | refine nz32 ?_ | refine And.intro (by assumption) ?_))); (conv => whnf)
        exact fin hx D fc_rf hi ⟨q.2.1, q.2.2.1, q.2.2.2, q.1⟩
    (repeat ((conv => whnf); (first | refine zo0 ?_ | refine zo1 ?_ | refine br_z ?_ | refine br_o ?_ | refine br_zn ?_ | refine br_on ?_ | refine nz2 ?_ | refine nz6 ?_ | refine nz32 ?_ | refine And.intro (by assumption) ?_))); (conv => whnf)
    refine ⟨v, hv, hi, fun D1 f1 i1 o1 => ?_⟩
    (repeat ((conv => whnf); (first | refine zo0 ?_ | refine zo1 ?_ | refine br_z ?_ | refine br_o ?_ | refine br_zn ?_ | refine br_on ?_ | refine nz2 ?_ | refine nz6 ?_ | refine nz32 ?_ | refine And.intro (by assumption) ?_))); (conv => whnf)
    exact fin hx D1 f1 i1 o1
  · exact absurd h id
theorem clX_spare (l : Launch) : ∀ (a : Nat) (ins : Instr) (b dd : Nat), csX_spare[a]? = some (ins, b, dd) → am_Call l yX_spare.cls 6 ins b dd (fnX_spare a) := by
  intro a ins b dd h
  match a, h with
  | 0, h => cases h; exact am_callV (T := F_10) (N := 17) (okX_learnSpared l) wcX_learnSpared (am_m3 (i := 163) rfl rfl) wiX_learnSpared wsX_learnSpared inX rfl (by decide) (by decide +kernel) (by decide) (by decide)
  | k + 1, h => simp [csX_spare] at h
theorem okX_spare (l : Launch) : am_Ok l yX_spare prog_1_method_21_code 2 (some .int) 6 spX_spare := am_ok_of (by decide +kernel) flX_ok kiX_ok klX_ok ckX_spare (clX_spare l) wpX_spare
