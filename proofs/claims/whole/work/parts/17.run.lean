def fnW_run : Nat → am_Sp := fun a => match a with
  | 0 => spW_begin
  | 1 => spW_befall
  | 2 => spW_act
  | 3 => spW_drive
  | 4 => spY_note
  | _ => am_no
theorem mfW_run : ∀ a, am_mono (fnW_run a) := fun a => match a with
  | 0 => moW_begin
  | 1 => moW_befall
  | 2 => moW_act
  | 3 => moW_drive
  | 4 => moY_note
  | _ + 5 => am_no_mono
def mw_done (P E : mw_T) (pr : Nat → Bool) (d : Nat) : Nat → Int32
  | 0 => -1
  | t + 1 => if mw_done P E pr d t = -1 ∧ P 1 d ≤ mw_run P E pr (t + 1) 1 d then nI t else mw_done P E pr d t
def mw_over (P E : mw_T) (pr : Nat → Bool) : Nat → Int32
  | 0 => -1
  | t + 1 => if mw_run P E pr (t + 1) 0 7 = 0 ∧ mw_over P E pr t = -1 then nI t else mw_over P E pr t
/-- the day's rows up to a minute -/
def yrec (D : am_D) (P E : mw_T) (pr : Nat → Bool) (n : Nat) : Prop :=
  (∀ s, s < n → D 28 (5 * s) = nI (mw_run P E pr (s + 1) 0 0) ∧ D 28 (5 * s + 1) = nI (mw_run P E pr (s + 1) 0 1) ∧ D 28 (5 * s + 2) = nI (mw_run P E pr (s + 1) 0 3) ∧ D 28 (5 * s + 3) = nI (mw_run P E pr (s + 1) 0 4) ∧ D 28 (5 * s + 4) = nI (mw_run P E pr (s + 1) 0 7)) ∧
  (∀ s, s < n → ∀ d, d < 12 → D 29 (36 * s + 3 * d) = nI (mw_run P E pr (s + 1) 1 d) ∧ D 29 (36 * s + 3 * d + 1) = nI (mw_run P E pr (s + 1) 2 d) ∧ D 29 (36 * s + 3 * d + 2) = nI (mw_run P E pr (s + 1) 3 d)) ∧
  (∀ d, d < 12 → D 30 d = mw_done P E pr d n) ∧ D 27 4 = mw_over P E pr n
def spW_run : am_Sp := fun as D L K => match as with
  | [.ref 22, .ref kp, .ref 7, .null] => ∃ (P E : mw_T) (pr : Nat → Bool), (kp = 14 ∨ kp = 18) ∧ mw_pok P ∧ mw_eok E ∧ px D kp P ∧ ex D E ∧ prx (D kp 7) pr ∧ (∃ w g, wx D w g) ∧ ∀ (D' : am_D) (g : Int32), fr 22 26 D D' → wx D' (mw_run P E pr 48) g → (∀ t, t < 48 → D' 26 t = nI (mw_run P E pr (t + 1) 0 0)) → K none D' L
  | [.ref 22, .ref kp, .ref 7, .ref 27] => ∃ (P E : mw_T) (pr : Nat → Bool), kp = 14 ∧ mw_pok P ∧ mw_eok E ∧ px D kp P ∧ ex D E ∧ prx (D kp 7) pr ∧ (∃ w g, wx D w g) ∧ (∀ d, d < 12 → D 30 d = -1) ∧ D 27 4 = -1 ∧ ∀ (D' : am_D) (g : Int32), fr 22 30 D D' → (∀ j, j ≠ 4 → D' 27 j = D 27 j) → wx D' (mw_run P E pr 48) g → (∀ t, t < 48 → D' 26 t = nI (mw_run P E pr (t + 1) 0 0)) → yrec D' P E pr 48 → K none D' L
  | _ => False
theorem moW_run : am_mono spW_run := by
  intro as D L K K' hK h
  unfold spW_run at h ⊢
  split at h
  · obtain ⟨P, E, pr, h1, h2, h3, h4, h5, h6, h7, h8⟩ := h
    exact ⟨P, E, pr, h1, h2, h3, h4, h5, h6, h7, fun D' g q1 q2 q3 => hK _ _ _ (h8 D' g q1 q2 q3)⟩
  · obtain ⟨P, E, pr, h1, h2, h3, h4, h5, h6, h7, h8, h9, h10⟩ := h
    exact ⟨P, E, pr, h1, h2, h3, h4, h5, h6, h7, h8, h9, fun D' g q1 q2 q3 q4 q5 => hK _ _ _ (h10 D' g q1 q2 q3 q4 q5)⟩
  · exact h
/-- cells that stay keep a plan, events, a walk -/
theorem px_fr {D D' : am_D} {kp : Nat} {P : mw_T} (h : px D kp P) (e0 : D' kp = D kp) (e1 : D' (kp + 1) = D (kp + 1)) (e2 : D' (kp + 2) = D (kp + 2)) (e3 : D' (kp + 3) = D (kp + 3)) : px D' kp P := by
  unfold px at h ⊢
  rw [e0, e1, e2, e3]
  exact h
theorem ex_fr {D D' : am_D} {E : mw_T} (h : ex D E) (e0 : D' 7 = D 7) (e1 : D' 8 = D 8) (e2 : D' 9 = D 9) (e3 : D' 10 = D 10) : ex D' E := by
  unfold ex at h ⊢
  rw [e0, e1, e2, e3]
  exact h
theorem wx_fr {D D' : am_D} {w : mw_T} {g : Int32} (h : wx D w g) (e0 : D' 22 = D 22) (e1 : D' 23 = D 23) (e2 : D' 24 = D 24) (e3 : D' 25 = D 25) : wx D' w g := by
  unfold wx at h ⊢
  rw [e0, e1, e2, e3]
  exact h
theorem wpW_run : ∀ (as : List Value) (D : am_D) (L : am_L) (K : am_K), spW_run as D L K → am_fit 5 as = true ∧ am_Wp false 0 cdW_run fnW_run K 0 (am_lo 5 as) [] D L := by
  intro as D L K h
  unfold spW_run at h
  split at h
  · rename_i kp
    obtain ⟨P, E, pr, hkp, hP, hE, hpx, hex, hpr, ⟨w0, g0, hw0⟩, hK⟩ := h
    rcases hkp with rfl | rfl
    · have loop : ∀ (m i : Nat) (D' : am_D) (g : Int32), i + m = 48 → fr 22 26 D D' → wx D' (mw_run P E pr i) g → (∀ t, t < i → D' 26 t = nI (mw_run P E pr (t + 1) 0 0)) → am_Wp false 0 cdW_run fnW_run K 8 [some (.ref 22), some (.ref 14), some (.ref 7), some .null, some (.int (nI i))] [] D' L := by
        intro m
        induction m with
        | zero =>
          intro i D' g hi hf hw htr
          refine am_Wp_bl mfW_run [8] 20 _ _ _ _ _ ?_
          (repeat ((conv => whnf); (first | refine zo0 ?_ | refine zo1 ?_ | refine br_z ?_ | refine br_o ?_ | refine br_zn ?_ | refine br_on ?_ | refine nz2 ?_ | refine nz6 ?_ | refine nz32 ?_ | refine And.intro (by assumption) ?_))); (conv => whnf)
          refine ⟨fun h1 => ?_, fun h1 => absurd (nI_le (a := 48) (by omega) (by omega)) h1⟩
          (repeat ((conv => whnf); (first | refine zo0 ?_ | refine zo1 ?_ | refine br_z ?_ | refine br_o ?_ | refine br_zn ?_ | refine br_on ?_ | refine nz2 ?_ | refine nz6 ?_ | refine nz32 ?_ | refine And.intro (by assumption) ?_))); (conv => whnf)
          rw [show i = 48 by omega] at hw htr
          exact hK D' g hf hw htr
        | succ m ih =>
          intro i D' g hi hf hw htr
          have zk : D' 14 = D 14 := hf 14 (by omega)
          have hpx' : px D' 14 P := px_fr hpx zk (hf _ (by omega)) (hf _ (by omega)) (hf _ (by omega))
          have hex' : ex D' E := ex_fr hex (hf _ (by omega)) (hf _ (by omega)) (hf _ (by omega)) (hf _ (by omega))
          have hok := mw_run_ok (pr := pr) hP hE i
          have ec : (nI i).toNatClampNeg = i := nI_clamp (by omega)
          have hin : vp_in (nI i) 48 := vp_in_nI (by omega) (by decide)
          refine am_Wp_bl mfW_run [8] 40 _ _ _ _ _ ?_
          (repeat ((conv => whnf); (first | refine zo0 ?_ | refine zo1 ?_ | refine br_z ?_ | refine br_o ?_ | refine br_zn ?_ | refine br_on ?_ | refine nz2 ?_ | refine nz6 ?_ | refine nz32 ?_ | refine And.intro (by assumption) ?_))); (conv => whnf)
          refine ⟨fun h1 => absurd h1 (nI_ge (b := 48) (by omega) (by omega)), fun h1 => ?_⟩
          (repeat ((conv => whnf); (first | refine zo0 ?_ | refine zo1 ?_ | refine br_z ?_ | refine br_o ?_ | refine br_zn ?_ | refine br_on ?_ | refine nz2 ?_ | refine nz6 ?_ | refine nz32 ?_ | refine And.intro (by assumption) ?_))); (conv => whnf)
          refine ⟨P, E, mw_run P E pr i, pr, i, i, rfl, by omega, hE, hok, hP, hex', by rw [zk]; exact hpr, ⟨g, hw⟩, fun D1 f1 w1 => ?_⟩
          have ok1 := mw_bef_ok (pr := pr) (t := i) hE hok (E 0 0) (Nat.le_refl _)
          have z1 : D1 14 = D 14 := (f1 14 (by omega)).trans zk
          have hpx1 : px D1 14 P := px_fr hpx' (f1 _ (by omega)) (f1 _ (by omega)) (f1 _ (by omega)) (f1 _ (by omega))
          (repeat ((conv => whnf); (first | refine zo0 ?_ | refine zo1 ?_ | refine br_z ?_ | refine br_o ?_ | refine br_zn ?_ | refine br_on ?_ | refine nz2 ?_ | refine nz6 ?_ | refine nz32 ?_ | refine And.intro (by assumption) ?_))); (conv => whnf)
          refine ⟨P, _, _, i, by first | exact Or.inl rfl | exact Or.inr rfl, by omega, hP, ok1, hpx1, w1, fun D2 f2 w2 d2 => ?_⟩
          have z2 : D2 14 = D 14 := (f2 14 (by omega)).trans z1
          have ok2 := mw_act_ok (g := (mw_bef E pr i (mw_run P E pr i) (E 0 0)).2) hP ok1
          (repeat ((conv => whnf); (first | refine zo0 ?_ | refine zo1 ?_ | refine br_z ?_ | refine br_o ?_ | refine br_zn ?_ | refine br_on ?_ | refine nz2 ?_ | refine nz6 ?_ | refine nz32 ?_ | refine And.intro (by assumption) ?_))); (conv => whnf)
          rw [z2]
          refine ⟨P, _, _, i, hpx.2.1, hP.2.1, rfl, by omega, ok2.1, ok2.2.1, w2, fun D3 f3 d3 w3 => ?_⟩
          (repeat ((conv => whnf); (first | refine zo0 ?_ | refine zo1 ?_ | refine br_z ?_ | refine br_o ?_ | refine br_zn ?_ | refine br_on ?_ | refine nz2 ?_ | refine nz6 ?_ | refine nz32 ?_ | refine And.intro (by assumption) ?_))); (conv => whnf)
          rw [nI_1]
          refine ih (i + 1) _ _ (by omega) (fr_tr (fr_tr (fr_tr hf (fr_wk (by omega) (by omega) f1)) (fr_tr (fr_wk (by omega) (by omega) f2) (fr_wk (by omega) (by omega) f3))) (by repeat (first | exact fr_rf | refine fr_up (by decide) (by decide) ?_ | refine fr_upA (by decide) (by decide) ?_))) (wx_fr w3 (am_up_ne (by decide)) (am_up_ne (by decide)) (am_up_ne (by decide)) (am_up_ne (by decide))) (fun t ht => ?_)
          rw [am_up_eq, ec]
          unfold upd
          by_cases et : t = i
          · rw [if_pos et, et]
            exact w3.2.1
          · rw [if_neg et, f3 26 (by omega), f2 26 (by omega), f1 26 (by omega)]
            exact htr t (by omega)
      refine ⟨rfl, am_Wp_bl mfW_run [8] 20 _ _ _ _ _ ?_⟩
      (repeat ((conv => whnf); (first | refine zo0 ?_ | refine zo1 ?_ | refine br_z ?_ | refine br_o ?_ | refine br_zn ?_ | refine br_on ?_ | refine nz2 ?_ | refine nz6 ?_ | refine nz32 ?_ | refine And.intro (by assumption) ?_))); (conv => whnf)
      refine ⟨P, by first | exact Or.inl rfl | exact Or.inr rfl, hpx, fun D1 f1 w1 => ?_⟩
      (repeat ((conv => whnf); (first | refine zo0 ?_ | refine zo1 ?_ | refine br_z ?_ | refine br_o ?_ | refine br_zn ?_ | refine br_on ?_ | refine nz2 ?_ | refine nz6 ?_ | refine nz32 ?_ | refine And.intro (by assumption) ?_))); (conv => whnf)
      exact loop 48 0 D1 _ (by omega) (fr_wk (by omega) (by omega) f1) w1 (fun t ht => absurd ht (by omega))
    · have loop : ∀ (m i : Nat) (D' : am_D) (g : Int32), i + m = 48 → fr 22 26 D D' → wx D' (mw_run P E pr i) g → (∀ t, t < i → D' 26 t = nI (mw_run P E pr (t + 1) 0 0)) → am_Wp false 0 cdW_run fnW_run K 8 [some (.ref 22), some (.ref 18), some (.ref 7), some .null, some (.int (nI i))] [] D' L := by
        intro m
        induction m with
        | zero =>
          intro i D' g hi hf hw htr
          refine am_Wp_bl mfW_run [8] 20 _ _ _ _ _ ?_
          (repeat ((conv => whnf); (first | refine zo0 ?_ | refine zo1 ?_ | refine br_z ?_ | refine br_o ?_ | refine br_zn ?_ | refine br_on ?_ | refine nz2 ?_ | refine nz6 ?_ | refine nz32 ?_ | refine And.intro (by assumption) ?_))); (conv => whnf)
          refine ⟨fun h1 => ?_, fun h1 => absurd (nI_le (a := 48) (by omega) (by omega)) h1⟩
          (repeat ((conv => whnf); (first | refine zo0 ?_ | refine zo1 ?_ | refine br_z ?_ | refine br_o ?_ | refine br_zn ?_ | refine br_on ?_ | refine nz2 ?_ | refine nz6 ?_ | refine nz32 ?_ | refine And.intro (by assumption) ?_))); (conv => whnf)
          rw [show i = 48 by omega] at hw htr
          exact hK D' g hf hw htr
        | succ m ih =>
          intro i D' g hi hf hw htr
          have zk : D' 18 = D 18 := hf 18 (by omega)
          have hpx' : px D' 18 P := px_fr hpx zk (hf _ (by omega)) (hf _ (by omega)) (hf _ (by omega))
          have hex' : ex D' E := ex_fr hex (hf _ (by omega)) (hf _ (by omega)) (hf _ (by omega)) (hf _ (by omega))
          have hok := mw_run_ok (pr := pr) hP hE i
          have ec : (nI i).toNatClampNeg = i := nI_clamp (by omega)
          have hin : vp_in (nI i) 48 := vp_in_nI (by omega) (by decide)
          refine am_Wp_bl mfW_run [8] 40 _ _ _ _ _ ?_
          (repeat ((conv => whnf); (first | refine zo0 ?_ | refine zo1 ?_ | refine br_z ?_ | refine br_o ?_ | refine br_zn ?_ | refine br_on ?_ | refine nz2 ?_ | refine nz6 ?_ | refine nz32 ?_ | refine And.intro (by assumption) ?_))); (conv => whnf)
          refine ⟨fun h1 => absurd h1 (nI_ge (b := 48) (by omega) (by omega)), fun h1 => ?_⟩
          (repeat ((conv => whnf); (first | refine zo0 ?_ | refine zo1 ?_ | refine br_z ?_ | refine br_o ?_ | refine br_zn ?_ | refine br_on ?_ | refine nz2 ?_ | refine nz6 ?_ | refine nz32 ?_ | refine And.intro (by assumption) ?_))); (conv => whnf)
          refine ⟨P, E, mw_run P E pr i, pr, i, i, rfl, by omega, hE, hok, hP, hex', by rw [zk]; exact hpr, ⟨g, hw⟩, fun D1 f1 w1 => ?_⟩
          have ok1 := mw_bef_ok (pr := pr) (t := i) hE hok (E 0 0) (Nat.le_refl _)
          have z1 : D1 18 = D 18 := (f1 18 (by omega)).trans zk
          have hpx1 : px D1 18 P := px_fr hpx' (f1 _ (by omega)) (f1 _ (by omega)) (f1 _ (by omega)) (f1 _ (by omega))
          (repeat ((conv => whnf); (first | refine zo0 ?_ | refine zo1 ?_ | refine br_z ?_ | refine br_o ?_ | refine br_zn ?_ | refine br_on ?_ | refine nz2 ?_ | refine nz6 ?_ | refine nz32 ?_ | refine And.intro (by assumption) ?_))); (conv => whnf)
          refine ⟨P, _, _, i, by first | exact Or.inl rfl | exact Or.inr rfl, by omega, hP, ok1, hpx1, w1, fun D2 f2 w2 d2 => ?_⟩
          have z2 : D2 18 = D 18 := (f2 18 (by omega)).trans z1
          have ok2 := mw_act_ok (g := (mw_bef E pr i (mw_run P E pr i) (E 0 0)).2) hP ok1
          (repeat ((conv => whnf); (first | refine zo0 ?_ | refine zo1 ?_ | refine br_z ?_ | refine br_o ?_ | refine br_zn ?_ | refine br_on ?_ | refine nz2 ?_ | refine nz6 ?_ | refine nz32 ?_ | refine And.intro (by assumption) ?_))); (conv => whnf)
          rw [z2]
          refine ⟨P, _, _, i, hpx.2.1, hP.2.1, rfl, by omega, ok2.1, ok2.2.1, w2, fun D3 f3 d3 w3 => ?_⟩
          (repeat ((conv => whnf); (first | refine zo0 ?_ | refine zo1 ?_ | refine br_z ?_ | refine br_o ?_ | refine br_zn ?_ | refine br_on ?_ | refine nz2 ?_ | refine nz6 ?_ | refine nz32 ?_ | refine And.intro (by assumption) ?_))); (conv => whnf)
          rw [nI_1]
          refine ih (i + 1) _ _ (by omega) (fr_tr (fr_tr (fr_tr hf (fr_wk (by omega) (by omega) f1)) (fr_tr (fr_wk (by omega) (by omega) f2) (fr_wk (by omega) (by omega) f3))) (by repeat (first | exact fr_rf | refine fr_up (by decide) (by decide) ?_ | refine fr_upA (by decide) (by decide) ?_))) (wx_fr w3 (am_up_ne (by decide)) (am_up_ne (by decide)) (am_up_ne (by decide)) (am_up_ne (by decide))) (fun t ht => ?_)
          rw [am_up_eq, ec]
          unfold upd
          by_cases et : t = i
          · rw [if_pos et, et]
            exact w3.2.1
          · rw [if_neg et, f3 26 (by omega), f2 26 (by omega), f1 26 (by omega)]
            exact htr t (by omega)
      refine ⟨rfl, am_Wp_bl mfW_run [8] 20 _ _ _ _ _ ?_⟩
      (repeat ((conv => whnf); (first | refine zo0 ?_ | refine zo1 ?_ | refine br_z ?_ | refine br_o ?_ | refine br_zn ?_ | refine br_on ?_ | refine nz2 ?_ | refine nz6 ?_ | refine nz32 ?_ | refine And.intro (by assumption) ?_))); (conv => whnf)
      refine ⟨P, by first | exact Or.inl rfl | exact Or.inr rfl, hpx, fun D1 f1 w1 => ?_⟩
      (repeat ((conv => whnf); (first | refine zo0 ?_ | refine zo1 ?_ | refine br_z ?_ | refine br_o ?_ | refine br_zn ?_ | refine br_on ?_ | refine nz2 ?_ | refine nz6 ?_ | refine nz32 ?_ | refine And.intro (by assumption) ?_))); (conv => whnf)
      exact loop 48 0 D1 _ (by omega) (fr_wk (by omega) (by omega) f1) w1 (fun t ht => absurd ht (by omega))
  · rename_i kp
    obtain ⟨P, E, pr, rfl, hP, hE, hpx, hex, hpr, ⟨w0, g0, hw0⟩, hdn, hov, hK⟩ := h
    have loop : ∀ (m i : Nat) (D' : am_D) (g : Int32), i + m = 48 → fr 22 30 D D' → (∀ j, j ≠ 4 → D' 27 j = D 27 j) → wx D' (mw_run P E pr i) g → (∀ t, t < i → D' 26 t = nI (mw_run P E pr (t + 1) 0 0)) → yrec D' P E pr i → am_Wp false 0 cdW_run fnW_run K 8 [some (.ref 22), some (.ref 14), some (.ref 7), some (.ref 27), some (.int (nI i))] [] D' L := by
      intro m
      induction m with
      | zero =>
        intro i D' g hi hf h27 hw htr hy
        refine am_Wp_bl mfW_run [8] 20 _ _ _ _ _ ?_
        (repeat ((conv => whnf); (first | refine zo0 ?_ | refine zo1 ?_ | refine br_z ?_ | refine br_o ?_ | refine br_zn ?_ | refine br_on ?_ | refine nz2 ?_ | refine nz6 ?_ | refine nz32 ?_ | refine And.intro (by assumption) ?_))); (conv => whnf)
        refine ⟨fun h1 => ?_, fun h1 => absurd (nI_le (a := 48) (by omega) (by omega)) h1⟩
        (repeat ((conv => whnf); (first | refine zo0 ?_ | refine zo1 ?_ | refine br_z ?_ | refine br_o ?_ | refine br_zn ?_ | refine br_on ?_ | refine nz2 ?_ | refine nz6 ?_ | refine nz32 ?_ | refine And.intro (by assumption) ?_))); (conv => whnf)
        rw [show i = 48 by omega] at hw htr hy
        exact hK D' g hf h27 hw htr hy
      | succ m ih =>
        intro i D' g hi hf h27 hw htr hy
        have zk : D' 14 = D 14 := hf 14 (by omega)
        have hpx' : px D' 14 P := px_fr hpx zk (hf _ (by omega)) (hf _ (by omega)) (hf _ (by omega))
        have hex' : ex D' E := ex_fr hex (hf _ (by omega)) (hf _ (by omega)) (hf _ (by omega)) (hf _ (by omega))
        have hok := mw_run_ok (pr := pr) hP hE i
        have ec : (nI i).toNatClampNeg = i := nI_clamp (by omega)
        have hin : vp_in (nI i) 48 := vp_in_nI (by omega) (by decide)
        refine am_Wp_bl mfW_run [8] 40 _ _ _ _ _ ?_
        (repeat ((conv => whnf); (first | refine zo0 ?_ | refine zo1 ?_ | refine br_z ?_ | refine br_o ?_ | refine br_zn ?_ | refine br_on ?_ | refine nz2 ?_ | refine nz6 ?_ | refine nz32 ?_ | refine And.intro (by assumption) ?_))); (conv => whnf)
        refine ⟨fun h1 => absurd h1 (nI_ge (b := 48) (by omega) (by omega)), fun h1 => ?_⟩
        (repeat ((conv => whnf); (first | refine zo0 ?_ | refine zo1 ?_ | refine br_z ?_ | refine br_o ?_ | refine br_zn ?_ | refine br_on ?_ | refine nz2 ?_ | refine nz6 ?_ | refine nz32 ?_ | refine And.intro (by assumption) ?_))); (conv => whnf)
        refine ⟨P, E, mw_run P E pr i, pr, i, i, rfl, by omega, hE, hok, hP, hex', by rw [zk]; exact hpr, ⟨g, hw⟩, fun D1 f1 w1 => ?_⟩
        have ok1 := mw_bef_ok (pr := pr) (t := i) hE hok (E 0 0) (Nat.le_refl _)
        have z1 : D1 14 = D 14 := (f1 14 (by omega)).trans zk
        have hpx1 : px D1 14 P := px_fr hpx' (f1 _ (by omega)) (f1 _ (by omega)) (f1 _ (by omega)) (f1 _ (by omega))
        (repeat ((conv => whnf); (first | refine zo0 ?_ | refine zo1 ?_ | refine br_z ?_ | refine br_o ?_ | refine br_zn ?_ | refine br_on ?_ | refine nz2 ?_ | refine nz6 ?_ | refine nz32 ?_ | refine And.intro (by assumption) ?_))); (conv => whnf)
        refine ⟨P, _, _, i, Or.inl rfl, by omega, hP, ok1, hpx1, w1, fun D2 f2 w2 d2 => ?_⟩
        have z2 : D2 14 = D 14 := (f2 14 (by omega)).trans z1
        have ok2 := mw_act_ok (g := (mw_bef E pr i (mw_run P E pr i) (E 0 0)).2) hP ok1
        (repeat ((conv => whnf); (first | refine zo0 ?_ | refine zo1 ?_ | refine br_z ?_ | refine br_o ?_ | refine br_zn ?_ | refine br_on ?_ | refine nz2 ?_ | refine nz6 ?_ | refine nz32 ?_ | refine And.intro (by assumption) ?_))); (conv => whnf)
        rw [z2]
        refine ⟨P, _, _, i, hpx.2.1, hP.2.1, rfl, by omega, ok2.1, ok2.2.1, w2, fun D3 f3 d3 w3 => ?_⟩
        have ok3 := mw_run_ok (pr := pr) hP hE (i + 1)
        have f123 : fr 22 25 D' D3 := fr_tr f1 (fr_tr f2 f3)
        have w3' : wx D3 (mw_run P E pr (i + 1)) _ := w3
        have d3' : wd D3 (mw_run P E pr (i + 1)) := by
          have e7 : mw_run P E pr (i + 1) 0 7 = mw_act P (mw_bef E pr i (mw_run P E pr i) (E 0 0)).2 (mw_bef E pr i (mw_run P E pr i) (E 0 0)).1 0 7 := by
            show mw_drive P i _ 0 7 = _
            unfold mw_drive
            split
            · rfl
            · rfl
          unfold wd at d2 ⊢
          rw [d3, d2, e7]
        (repeat ((conv => whnf); (first | refine zo0 ?_ | refine zo1 ?_ | refine br_z ?_ | refine br_o ?_ | refine br_zn ?_ | refine br_on ?_ | refine nz2 ?_ | refine nz6 ?_ | refine nz32 ?_ | refine And.intro (by assumption) ?_))); (conv => whnf)
        refine ⟨P, mw_run P E pr (i + 1), _, i, i + 1, rfl, by omega, hP, ok3, ?_, wx_fr w3' (am_up_ne (by decide)) (am_up_ne (by decide)) (am_up_ne (by decide)) (am_up_ne (by decide)), ?_, fun D4 hn => ?_⟩
        · intro d hd
          rw [am_up_ne (by decide), f123 15 (by omega), hf 15 (by omega)]
          exact (hpx.2.2.2.2.1 d hd).1
        · unfold wd at d3' ⊢
          rw [am_up_ne (by decide)]
          exact d3'
        · obtain ⟨n1, n2, n3, n4, n5, n6, n7⟩ := hn
          obtain ⟨y1, y2, y3, y4⟩ := hy
          have v27 : am_up D3 26 i (D3 22 4) 27 = D' 27 := (am_up_ne (by decide)).trans (f123 27 (by omega))
          have v28 : am_up D3 26 i (D3 22 4) 28 = D' 28 := (am_up_ne (by decide)).trans (f123 28 (by omega))
          have v29 : am_up D3 26 i (D3 22 4) 29 = D' 29 := (am_up_ne (by decide)).trans (f123 29 (by omega))
          have v30 : am_up D3 26 i (D3 22 4) 30 = D' 30 := (am_up_ne (by decide)).trans (f123 30 (by omega))
          rw [ec] at n1 n2 n3 n4 n6 n7
          rw [v27] at n2 n3
          rw [v28] at n4
          rw [v29] at n6
          rw [v30] at n7
          have wk : ∀ k, k < 27 → D4 k = am_up D3 26 i (D3 22 4) k := fun k hk => n1 k (by omega)
          (repeat ((conv => whnf); (first | refine zo0 ?_ | refine zo1 ?_ | refine br_z ?_ | refine br_o ?_ | refine br_zn ?_ | refine br_on ?_ | refine nz2 ?_ | refine nz6 ?_ | refine nz32 ?_ | refine And.intro (by assumption) ?_))); (conv => whnf)
          rw [nI_1]
          refine ih (i + 1) D4 _ (by omega) ?_ (fun j hj => (n2 j hj).trans (h27 j hj)) (wx_fr w3' ?_ ?_ ?_ ?_) (fun t ht => ?_) ⟨fun s hs => ?_, fun s hs d hd => ?_, fun d hd => ?_, ?_⟩
          · exact fr_tr (fr_tr hf (fr_wk (by omega) (by omega) f123)) (fr_tr (fr_up (by decide) (by decide) fr_rf) (fr_wk (by omega) (by omega) n1))
          · rw [wk 22 (by omega)]; exact am_up_ne (by decide)
          · rw [wk 23 (by omega)]; exact am_up_ne (by decide)
          · rw [wk 24 (by omega)]; exact am_up_ne (by decide)
          · rw [wk 25 (by omega)]; exact am_up_ne (by decide)
          · rw [wk 26 (by omega), am_up_eq]
            unfold upd
            by_cases et : t = i
            · rw [if_pos et, et]
              exact w3'.2.1
            · rw [if_neg et, f123 26 (by omega)]
              exact htr t (by omega)
          · by_cases es : s = i
            · rw [es]; exact n5
            · have := y1 s (by omega)
              rw [n4 _ (by omega), n4 _ (by omega), n4 _ (by omega), n4 _ (by omega), n4 _ (by omega)]
              exact this
          · by_cases es : s = i
            · rw [es]
              have := n7 d hd
              exact ⟨this.1, this.2.1, this.2.2.1⟩
            · have := y2 s (by omega) d hd
              rw [n6 _ (by omega), n6 _ (by omega), n6 _ (by omega)]
              exact this
          · rw [(n7 d hd).2.2.2, y3 d hd]
            rfl
          · rw [n3, y4]
            rfl
    refine ⟨rfl, am_Wp_bl mfW_run [8] 20 _ _ _ _ _ ?_⟩
    (repeat ((conv => whnf); (first | refine zo0 ?_ | refine zo1 ?_ | refine br_z ?_ | refine br_o ?_ | refine br_zn ?_ | refine br_on ?_ | refine nz2 ?_ | refine nz6 ?_ | refine nz32 ?_ | refine And.intro (by assumption) ?_))); (conv => whnf)
    refine ⟨P, Or.inl rfl, hpx, fun D1 f1 w1 => ?_⟩
    (repeat ((conv => whnf); (first | refine zo0 ?_ | refine zo1 ?_ | refine br_z ?_ | refine br_o ?_ | refine br_zn ?_ | refine br_on ?_ | refine nz2 ?_ | refine nz6 ?_ | refine nz32 ?_ | refine And.intro (by assumption) ?_))); (conv => whnf)
    refine loop 48 0 D1 _ (by omega) (fr_wk (by omega) (by omega) f1) (fun j _ => by rw [f1 27 (by omega)]) w1 (fun t ht => absurd ht (by omega)) ⟨fun s hs => absurd hs (by omega), fun s hs => absurd hs (by omega), fun d hd => ?_, ?_⟩
    · rw [f1 30 (by omega)]; exact hdn d hd
    · rw [f1 27 (by omega)]; exact hov
  · exact absurd h id
theorem clW_run (l : Launch) : ∀ (a : Nat) (ins : Instr) (b dd : Nat), csW_run[a]? = some (ins, b, dd) → am_Call l yW_run.cls 3 ins b dd (fnW_run a) := by
  intro a ins b dd h
  match a, h with
  | 0, h => cases h; exact am_callV (T := F_9) (N := 17) (okW_begin l) wcW_begin (am_m3 (i := 26) rfl rfl) wiW_begin wsW_begin inW rfl (by decide) (by decide +kernel) (by decide) (by decide)
  | 1, h => cases h; exact am_callV (T := F_9) (N := 17) (okW_befall l) wcW_befall (am_m3 (i := 34) rfl rfl) wiW_befall wsW_befall inW rfl (by decide) (by decide +kernel) (by decide) (by decide)
  | 2, h => cases h; exact am_callV (T := F_9) (N := 17) (okW_act l) wcW_act (am_m3 (i := 53) rfl rfl) wiW_act wsW_act inW rfl (by decide) (by decide +kernel) (by decide) (by decide)
  | 3, h => cases h; exact am_callV (T := F_9) (N := 17) (okW_drive l) wcW_drive (am_m3 (i := 74) rfl rfl) wiW_drive wsW_drive inW rfl (by decide) (by decide +kernel) (by decide) (by decide)
  | 4, h => cases h; exact am_callV (T := F_2) (N := 7) (okY_note l) wcY_note (am_m3 (i := 81) rfl rfl) wiY_note wsY_note inY rfl (by decide) (by decide +kernel) (by decide) (by decide)
  | k + 5, h => simp [csW_run] at h
theorem okW_run (l : Launch) : am_Ok l yW_run prog_11_method_2_code 5 none 3 spW_run := am_ok_of (by decide +kernel) flW_ok kiW_ok klW_ok ckW_run (clW_run l) wpW_run
