def fnM_goesBy : Nat → am_Sp := fun a => match a with
  | 0 => spM_befalls
  | 1 => spM_does
  | 2 => spM_follows
  | 3 => spM_wanting
  | _ => am_no
theorem mfM_goesBy : ∀ a, am_mono (fnM_goesBy a) := fun a => match a with
  | 0 => moM_befalls
  | 1 => moM_does
  | 2 => moM_follows
  | 3 => moM_wanting
  | _ + 4 => am_no_mono
def fg (D D' : am_D) : Prop := (∀ k, k ≠ 49 → k < 61 ∨ 69 < k → D' k = D k) ∧ ∀ j, j < 16 ∨ 28 < j → D' 49 j = D 49 j
theorem fg_rf {D : am_D} : fg D D := ⟨fun _ _ _ => rfl, fun _ _ => rfl⟩
theorem fg_up {D D' : am_D} {j : Nat} {v : Int32} (h1 : 16 ≤ j) (h2 : j ≤ 28) (h : fg D D') : fg D (am_up D' 49 j v) := ⟨fun k hk hq => by rw [am_up_ne hk]; exact h.1 k hk hq, fun i hi => by
  rw [am_up_eq]
  unfold upd
  rw [if_neg (by omega)]
  exact h.2 i hi⟩
theorem fg_upA {D D' : am_D} {k j : Nat} {v : Int32} (h1 : 61 ≤ k) (h2 : k ≤ 69) (h : fg D D') : fg D (am_up D' k j v) := ⟨fun q hk hq => by rw [am_up_ne (by omega)]; exact h.1 q hk hq, fun i hi => by rw [am_up_ne (by omega)]; exact h.2 i hi⟩
theorem fg_tr {D D' D'' : am_D} (h1 : fg D D') (h2 : fg D' D'') : fg D D'' := ⟨fun k a b => (h2.1 k a b).trans (h1.1 k a b), fun j hj => (h2.2 j hj).trans (h1.2 j hj)⟩
theorem fg_of {D D' : am_D} (h : fm D D') : fg D D' := ⟨fun k a b => h.1 k a (by omega), fun j hj => h.2 j (by omega)⟩
theorem pm_fg {D D' : am_D} {P : mw_T} (h : pm D P) (f : fg D D') : pm D' P := by
  unfold pm at h ⊢
  rw [f.2 4 (by omega), f.2 13 (by omega), f.2 14 (by omega), f.1 55 (by omega) (by omega), f.1 59 (by omega) (by omega), f.1 53 (by omega) (by omega), f.1 60 (by omega) (by omega)]
  exact h
theorem em_fg {D D' : am_D} {E : mw_T} (h : em D E) (f : fg D D') : em D' E := by
  unfold em at h ⊢
  rw [f.2 7 (by omega), f.1 56 (by omega) (by omega), f.1 57 (by omega) (by omega), f.1 58 (by omega) (by omega)]
  exact h
theorem wm_fr {D D' : am_D} {w : mw_T} {g : Int32} (h : wm D w g) (e0 : ∀ j, j ≤ 27 → D' 49 j = D 49 j) (e1 : D' 61 = D 61) (e2 : D' 62 = D 62) (e3 : D' 63 = D 63) : wm D' w g := by
  unfold wm at h ⊢
  rw [e1, e2, e3, e0 16 (by omega), e0 17 (by omega), e0 18 (by omega), e0 19 (by omega), e0 20 (by omega), e0 21 (by omega), e0 22 (by omega), e0 23 (by omega), e0 24 (by omega), e0 25 (by omega), e0 26 (by omega), e0 27 (by omega)]
  exact h
/-- what a minute puts down -/
def mnote (D D' : am_D) (P w : mw_T) (t : Nat) : Prop := fg D D' ∧ D' 49 28 = (if w 0 7 = 0 ∧ D 49 28 = -1 then nI t else D 49 28) ∧
  (∀ j, j ≠ t → D' 65 j = D 65 j ∧ D' 66 j = D 66 j ∧ D' 67 j = D 67 j ∧ D' 68 j = D 68 j ∧ D' 69 j = D 69 j) ∧ (D' 65 t = nI (w 0 0) ∧ D' 66 t = nI (w 0 1) ∧ D' 67 t = nI (w 0 3) ∧ D' 68 t = nI (w 0 4) ∧ D' 69 t = nI (w 0 7)) ∧
  ∀ d, d < 12 → D' 64 d = if D 64 d = -1 ∧ P 1 d ≤ w 1 d then nI t else D 64 d
def spM_goesBy : am_Sp := fun as D L K => match as with
  | [.ref 49, .int x] => ∃ (P E w : mw_T) (pr : Nat → Bool) (t : Nat), x = nI t ∧ t < 48 ∧ mw_pok P ∧ mw_eok E ∧ mw_ok P t w ∧ pm D P ∧ em D E ∧ prx (D 49 15) pr ∧ (∃ g, wm D w g) ∧ ∀ (D' : am_D) (g : Int32), mnote D D' P (mw_min P E pr t w) t → wm D' (mw_min P E pr t w) g → K none D' L
  | _ => False
theorem moM_goesBy : am_mono spM_goesBy := by
  intro as D L K K' hK h
  unfold spM_goesBy at h ⊢
  split at h
  · obtain ⟨P, E, w, pr, t, h1, h2, h3, h4, h5, h6, h7, h8, h9, h10⟩ := h
    exact ⟨P, E, w, pr, t, h1, h2, h3, h4, h5, h6, h7, h8, h9, fun D' g q1 q2 => hK _ _ _ (h10 D' g q1 q2)⟩
  · exact h
theorem wpM_goesBy : ∀ (as : List Value) (D : am_D) (L : am_L) (K : am_K), spM_goesBy as D L K → am_fit 3 as = true ∧ am_Wp false 0 cdM_goesBy fnM_goesBy K 0 (am_lo 3 as) [] D L := by
  intro as D L K h
  unfold spM_goesBy at h
  split at h
  · rename_i x
    obtain ⟨P, E, w, pr, t, rfl, ht, hP, hE, hO, hpm, hem, hpr, ⟨g0, hw0⟩, hK⟩ := h
    have ect : (nI t).toNatClampNeg = t := nI_clamp (by omega)
    have hint : vp_in (nI t) 48 := vp_in_nI (by omega) (by decide)
    have ok1 := mw_bef_ok (pr := pr) (t := t) hE hO (E 0 0) (Nat.le_refl _)
    have ok2 := mw_act_ok (g := (mw_bef E pr t w (E 0 0)).2) hP ok1
    have ok3 : mw_ok P (t + 1) (mw_min P E pr t w) := mw_min_ok hP hE hO
    have e7 : mw_min P E pr t w 0 7 = mw_act P (mw_bef E pr t w (E 0 0)).2 (mw_bef E pr t w (E 0 0)).1 0 7 := by
      show mw_drive P t _ 0 7 = _
      unfold mw_drive
      split
      · rfl
      · rfl
    obtain ⟨w3, hw3⟩ : ∃ w3, mw_min P E pr t w = w3 := ⟨_, rfl⟩
    rw [hw3] at hK ok3 e7
    have loop : ∀ (D1 : am_D) (g : Int32), wm D1 w3 g → fg D D1 → D1 49 28 = (if w3 0 7 = 0 ∧ D 49 28 = -1 then nI t else D 49 28) → (∀ j, j ≠ t → D1 65 j = D 65 j ∧ D1 66 j = D 66 j ∧ D1 67 j = D 67 j ∧ D1 68 j = D 68 j ∧ D1 69 j = D 69 j) → (D1 65 t = nI (w3 0 0) ∧ D1 66 t = nI (w3 0 1) ∧ D1 67 t = nI (w3 0 3) ∧ D1 68 t = nI (w3 0 4) ∧ D1 69 t = nI (w3 0 7)) →
        ∀ (m i : Nat) (D' : am_D), i + m = 12 → (∀ k, k ≠ 64 → D' k = D1 k) → (∀ d, d < 12 → D' 64 d = if d < i then (if D 64 d = -1 ∧ P 1 d ≤ w3 1 d then nI t else D 64 d) else D 64 d) →
        am_Wp false 0 cdM_goesBy fnM_goesBy K 91 [some (.ref 49), some (.int (nI t)), some (.int (nI i))] [] D' L := by
      intro D1 g g1 g2 g3 g4 g5 m
      induction m with
      | zero =>
        intro i D' hi hf hd1
        refine am_Wp_bl mfM_goesBy [91] 20 _ _ _ _ _ ?_
        (repeat ((conv => whnf); (first | refine zo0 ?_ | refine zo1 ?_ | refine br_z ?_ | refine br_o ?_ | refine br_zn ?_ | refine br_on ?_ | refine nz2 ?_ | refine nz6 ?_ | refine nz32 ?_ | refine And.intro (by assumption) ?_))); (conv => whnf)
        refine ⟨fun h1 => ?_, fun h1 => absurd (nI_le (a := 12) (by omega) (by omega)) h1⟩
        (repeat ((conv => whnf); (first | refine zo0 ?_ | refine zo1 ?_ | refine br_z ?_ | refine br_o ?_ | refine br_zn ?_ | refine br_on ?_ | refine nz2 ?_ | refine nz6 ?_ | refine nz32 ?_ | refine And.intro (by assumption) ?_))); (conv => whnf)
        have z49 : D' 49 = D1 49 := hf 49 (by decide)
        refine hK D' g ⟨⟨fun k h1 h2 => (hf k (by omega)).trans (g2.1 k h1 h2), fun j hj => by rw [z49]; exact g2.2 j hj⟩, by rw [z49]; exact g3, ?_, ?_, fun d hd => ?_⟩ (wm_fr g1 (fun j _ => by rw [z49]) (hf 61 (by decide)) (hf 62 (by decide)) (hf 63 (by decide)))
        · rw [hf 65 (by decide), hf 66 (by decide), hf 67 (by decide), hf 68 (by decide), hf 69 (by decide)]
          exact g4
        · rw [hf 65 (by decide), hf 66 (by decide), hf 67 (by decide), hf 68 (by decide), hf 69 (by decide)]
          exact g5
        · rw [hd1 d hd, if_pos (by omega)]
      | succ m ih =>
        intro i D' hi hf hd1
        have ec : (nI i).toNatClampNeg = i := nI_clamp (by omega)
        have hin : vp_in (nI i) 12 := vp_in_nI (by omega) (by decide)
        have h64 : D' 64 i = D 64 i := by rw [hd1 i (by omega), if_neg (by omega)]
        have x1 : D' 61 i = nI (w3 1 i) := by rw [hf 61 (by decide)]; exact (g1.1 i (by omega)).1
        have x4 : D' 59 i = nI (P 1 i) := by rw [hf 59 (by decide), g2.1 59 (by decide) (by omega)]; exact (hpm.2.2.2.2.1 i (by omega)).1
        have b1 := (ok3.2.2.2.2.2.2.2.2 i (by omega)).1
        have b2 := (hP.2.2.2.2.2.1 i (by omega)).1
        have fin : ∀ v : Int32, (v = if D 64 i = -1 ∧ P 1 i ≤ w3 1 i then nI t else D 64 i) → am_Wp false 0 cdM_goesBy fnM_goesBy K 91 [some (.ref 49), some (.int (nI t)), some (.int (nI i + 1))] [] (am_up D' 64 i v) L := by
          intro v hv
          rw [nI_1]
          refine ih (i + 1) _ (by omega) (fun k hk => (am_up_ne hk).trans (hf k hk)) (fun d hd => ?_)
          rw [am_up_eq]
          unfold upd
          by_cases ed : d = i
          · rw [if_pos ed, ed, if_pos (by omega)]; exact hv
          · rw [if_neg ed, hd1 d hd]
            by_cases q : d < i
            · rw [if_pos q, if_pos (show d < i + 1 by omega)]
            · rw [if_neg q, if_neg (show ¬ d < i + 1 by omega)]
        refine am_Wp_bl mfM_goesBy [91] 60 _ _ _ _ _ ?_
        (repeat ((conv => whnf); (first | refine zo0 ?_ | refine zo1 ?_ | refine br_z ?_ | refine br_o ?_ | refine br_zn ?_ | refine br_on ?_ | refine nz2 ?_ | refine nz6 ?_ | refine nz32 ?_ | refine And.intro (by assumption) ?_))); (conv => whnf)
        refine ⟨fun h1 => absurd h1 (nI_ge (b := 12) (by omega) (by omega)), fun h1 => ?_⟩
        (repeat ((conv => whnf); (first | refine zo0 ?_ | refine zo1 ?_ | refine br_z ?_ | refine br_o ?_ | refine br_zn ?_ | refine br_on ?_ | refine nz2 ?_ | refine nz6 ?_ | refine nz32 ?_ | refine And.intro (by assumption) ?_))); (conv => whnf)
        rw [ec, h64]
        refine ⟨fun h2 => ?_, fun h2 => ?_⟩
        · (repeat ((conv => whnf); (first | refine zo0 ?_ | refine zo1 ?_ | refine br_z ?_ | refine br_o ?_ | refine br_zn ?_ | refine br_on ?_ | refine nz2 ?_ | refine nz6 ?_ | refine nz32 ?_ | refine And.intro (by assumption) ?_))); (conv => whnf)
          rw [ec]
          exact fin _ (by rw [h64, if_neg (fun q => h2 q.1)])
        · (repeat ((conv => whnf); (first | refine zo0 ?_ | refine zo1 ?_ | refine br_z ?_ | refine br_o ?_ | refine br_zn ?_ | refine br_on ?_ | refine nz2 ?_ | refine nz6 ?_ | refine nz32 ?_ | refine And.intro (by assumption) ?_))); (conv => whnf)
          refine ⟨i, rfl, by omega, ?_⟩
          rw [x4, x1, pk_sub b1]
          (repeat ((conv => whnf); (first | refine zo0 ?_ | refine zo1 ?_ | refine br_z ?_ | refine br_o ?_ | refine br_zn ?_ | refine br_on ?_ | refine nz2 ?_ | refine nz6 ?_ | refine nz32 ?_ | refine And.intro (by assumption) ?_))); (conv => whnf)
          refine ⟨fun h3 => ?_, fun h3 => ?_⟩
          · (repeat ((conv => whnf); (first | refine zo0 ?_ | refine zo1 ?_ | refine br_z ?_ | refine br_o ?_ | refine br_zn ?_ | refine br_on ?_ | refine nz2 ?_ | refine nz6 ?_ | refine nz32 ?_ | refine And.intro (by assumption) ?_))); (conv => whnf)
            rw [ec]
            refine fin _ ?_
            rw [h64, if_neg]
            rintro ⟨-, q⟩
            apply h3
            rw [show P 1 i - w3 1 i = 0 by omega, nI_0]
          · rw [← nI_0, nI_eq (by omega) (by omega)] at h3
            (repeat ((conv => whnf); (first | refine zo0 ?_ | refine zo1 ?_ | refine br_z ?_ | refine br_o ?_ | refine br_zn ?_ | refine br_on ?_ | refine nz2 ?_ | refine nz6 ?_ | refine nz32 ?_ | refine And.intro (by assumption) ?_))); (conv => whnf)
            rw [ec]
            exact fin _ (by rw [if_pos ⟨h2, by omega⟩])
    refine ⟨rfl, am_Wp_bl mfM_goesBy [44] 80 _ _ _ _ _ ?_⟩
    (repeat ((conv => whnf); (first | refine zo0 ?_ | refine zo1 ?_ | refine br_z ?_ | refine br_o ?_ | refine br_zn ?_ | refine br_on ?_ | refine nz2 ?_ | refine nz6 ?_ | refine nz32 ?_ | refine And.intro (by assumption) ?_))); (conv => whnf)
    refine ⟨P, E, w, pr, t, t, rfl, ht, hE, hO, hP, hem, hpr, ⟨g0, hw0⟩, fun D1 f1 w1 => ?_⟩
    (repeat ((conv => whnf); (first | refine zo0 ?_ | refine zo1 ?_ | refine br_z ?_ | refine br_o ?_ | refine br_zn ?_ | refine br_on ?_ | refine nz2 ?_ | refine nz6 ?_ | refine nz32 ?_ | refine And.intro (by assumption) ?_))); (conv => whnf)
    refine ⟨P, _, _, t, ht, hP, ok1, pm_fr hpm f1, w1, fun D2 r f2 w2 hr => ?_⟩
    (repeat ((conv => whnf); (first | refine zo0 ?_ | refine zo1 ?_ | refine br_z ?_ | refine br_o ?_ | refine br_zn ?_ | refine br_on ?_ | refine nz2 ?_ | refine nz6 ?_ | refine nz32 ?_ | refine And.intro (by assumption) ?_))); (conv => whnf)
    rw [ect]
    have g2 : fm D D2 := fm_tr f1 f2
    have hr' : r = nI (w3 0 7) := by rw [hr, e7]
    subst hr'
    have b7 : w3 0 7 ≤ 4 := ok3.2.2.2.2.2.2.1
    have z0 : am_up D2 69 t (nI (w3 0 7)) 69 t = nI (w3 0 7) := by simp [am_up, upd]
    have z1 : am_up D2 69 t (nI (w3 0 7)) 49 28 = D 49 28 := by rw [am_up_ne (by decide), g2.2 28 (by omega)]
    rw [z0]
    have hz : nI (w3 0 7) = 0 ↔ w3 0 7 = 0 := by rw [← nI_0, nI_eq (by omega) (by omega)]
    rw [hz]
    have rest : ∀ v : Int32, v = (if w3 0 7 = 0 ∧ D 49 28 = -1 then nI t else D 49 28) → am_Wp false 0 cdM_goesBy fnM_goesBy K 44 [some (.ref 49), some (.int (nI t)), none] [] (am_up (am_up D2 69 t (nI (w3 0 7))) 49 28 v) L := by
      intro v hv
      obtain ⟨D3, hD3⟩ : ∃ D3, am_up (am_up D2 69 t (nI (w3 0 7))) 49 28 v = D3 := ⟨_, rfl⟩
      rw [hD3]
      have y1 : ∀ k, k ≠ 49 → k ≠ 69 → D3 k = D2 k := fun k h1 h2 => by rw [← hD3, am_up_ne h1, am_up_ne h2]
      have y2 : ∀ j, j ≠ 28 → D3 49 j = D2 49 j := fun j hj => by
        rw [← hD3, am_up_eq]
        unfold upd
        rw [if_neg hj, am_up_ne (by decide)]
      have y3 : D3 49 28 = v := by rw [← hD3]; simp [am_up, upd]
      have y4 : ∀ j, D3 69 j = if j = t then nI (w3 0 7) else D2 69 j := fun j => by
        rw [← hD3, am_up_ne (by decide), am_up_eq]
        rfl
      have w2' := wm_fr (D' := D3) w2 (fun j hj => y2 j (by omega)) (y1 61 (by decide) (by decide)) (y1 62 (by decide) (by decide)) (y1 63 (by decide) (by decide))
      refine am_Wp_bl mfM_goesBy [91] 60 _ _ _ _ _ ?_
      (repeat ((conv => whnf); (first | refine zo0 ?_ | refine zo1 ?_ | refine br_z ?_ | refine br_o ?_ | refine br_zn ?_ | refine br_on ?_ | refine nz2 ?_ | refine nz6 ?_ | refine nz32 ?_ | refine And.intro (by assumption) ?_))); (conv => whnf)
      refine ⟨P, _, _, t, ?_, hP.2.1, rfl, ht, ok2.1, ok2.2.1, w2', fun D4 f4 w4 => ?_⟩
      · rw [y2 13 (by decide), g2.2 13 (by omega)]; exact hpm.2.1
      have w4' : wm D4 w3 (mw_bef E pr t w (E 0 0)).2 := by
        rw [← hw3]
        exact w4
      have w5 := w4'
      obtain ⟨aL, a16, a17, a18, a19, a20, a21, a22, a23, a24, a25, a26, a27⟩ := w5
      (repeat ((conv => whnf); (first | refine zo0 ?_ | refine zo1 ?_ | refine br_z ?_ | refine br_o ?_ | refine br_zn ?_ | refine br_on ?_ | refine nz2 ?_ | refine nz6 ?_ | refine nz32 ?_ | refine And.intro (by assumption) ?_))); (conv => whnf)
      have u49 : ∀ (D : am_D) (k j : Nat) (v : Int32), k ≠ 49 → am_up D k j v 49 = D 49 := fun D k j v h => am_up_ne (Ne.symm h)
      rw [ect]
      simp only [u49 _ 65 _ _ (by decide), u49 _ 66 _ _ (by decide), u49 _ 67 _ _ (by decide), u49 _ 68 _ _ (by decide), a16, a17, a18, a19]
      have x0 : ∀ k, k ≠ 49 → (k < 61 ∨ 63 < k) → k ≠ 69 → D4 k = D k := fun k h1 h2 h3 => by rw [f4.1 k h1 h2, y1 k h1 h3, g2.1 k h1 h2]
      refine loop _ _ (wm_fr w4' (fun j _ => ?_) ?_ ?_ ?_) ⟨fun k h1 h2 => ?_, fun j hj => ?_⟩ ?_ (fun j hj => ?_) ?_ 12 0 _ (by omega) (fun _ _ => rfl) (fun d hd => ?_)
      · rw [am_up_ne (by decide), am_up_ne (by decide), am_up_ne (by decide), am_up_ne (by decide)]
      · rw [am_up_ne (by decide), am_up_ne (by decide), am_up_ne (by decide), am_up_ne (by decide)]
      · rw [am_up_ne (by decide), am_up_ne (by decide), am_up_ne (by decide), am_up_ne (by decide)]
      · rw [am_up_ne (by decide), am_up_ne (by decide), am_up_ne (by decide), am_up_ne (by decide)]
      · rw [am_up_ne (by omega), am_up_ne (by omega), am_up_ne (by omega), am_up_ne (by omega)]
        exact x0 k h1 (by omega) (by omega)
      · rw [am_up_ne (by decide), am_up_ne (by decide), am_up_ne (by decide), am_up_ne (by decide), f4.2 j (by omega), y2 j (by omega), g2.2 j (by omega)]
      · rw [am_up_ne (by decide), am_up_ne (by decide), am_up_ne (by decide), am_up_ne (by decide), f4.2 28 (by omega), y3]
        exact hv
      · have e65 := x0 65 (by decide) (by omega) (by decide)
        have e66 := x0 66 (by decide) (by omega) (by decide)
        have e67 := x0 67 (by decide) (by omega) (by decide)
        have e68 := x0 68 (by decide) (by omega) (by decide)
        have e69 : D4 69 j = D 69 j := by rw [f4.1 69 (by decide) (by omega), y4 j, if_neg hj, g2.1 69 (by decide) (by omega)]
        simp [am_up, upd, hj, e65, e66, e67, e68, e69]
      · have e69 : D4 69 t = nI (w3 0 7) := by rw [f4.1 69 (by decide) (by omega), y4 t, if_pos rfl]
        simp [am_up, upd, e69]
      · rw [am_up_ne (by decide), am_up_ne (by decide), am_up_ne (by decide), am_up_ne (by decide), x0 64 (by decide) (by omega) (by decide), if_neg (by omega)]
    refine ⟨fun h1 => ?_, fun h1 => ?_⟩
    · (repeat ((conv => whnf); (first | refine zo0 ?_ | refine zo1 ?_ | refine br_z ?_ | refine br_o ?_ | refine br_zn ?_ | refine br_on ?_ | refine nz2 ?_ | refine nz6 ?_ | refine nz32 ?_ | refine And.intro (by assumption) ?_))); (conv => whnf)
      exact rest _ (by rw [z1, if_neg (fun q => h1 q.1)])
    · (repeat ((conv => whnf); (first | refine zo0 ?_ | refine zo1 ?_ | refine br_z ?_ | refine br_o ?_ | refine br_zn ?_ | refine br_on ?_ | refine nz2 ?_ | refine nz6 ?_ | refine nz32 ?_ | refine And.intro (by assumption) ?_))); (conv => whnf)
      rw [z1]
      refine ⟨fun h2 => ?_, fun h2 => ?_⟩
      · (repeat ((conv => whnf); (first | refine zo0 ?_ | refine zo1 ?_ | refine br_z ?_ | refine br_o ?_ | refine br_zn ?_ | refine br_on ?_ | refine nz2 ?_ | refine nz6 ?_ | refine nz32 ?_ | refine And.intro (by assumption) ?_))); (conv => whnf)
        exact rest _ (by rw [z1, if_neg (fun q => h2 q.2)])
      · (repeat ((conv => whnf); (first | refine zo0 ?_ | refine zo1 ?_ | refine br_z ?_ | refine br_o ?_ | refine br_zn ?_ | refine br_on ?_ | refine nz2 ?_ | refine nz6 ?_ | refine nz32 ?_ | refine And.intro (by assumption) ?_))); (conv => whnf)
        exact rest _ (by rw [if_pos ⟨h1, h2⟩])
  · exact absurd h id
theorem clM_goesBy (l : Launch) : ∀ (a : Nat) (ins : Instr) (b dd : Nat), csM_goesBy[a]? = some (ins, b, dd) → am_Call l yM_goesBy.cls 3 ins b dd (fnM_goesBy a) := by
  intro a ins b dd h
  match a, h with
  | 0, h => cases h; exact am_callV (T := F_11) (N := 52) (okM_befalls l) wcM_befalls (am_m5 (i := 132) rfl rfl) wiM_befalls wsM_befalls inM rfl (by decide) (by decide +kernel) (by decide) (by decide)
  | 1, h => cases h; exact am_callV (T := F_11) (N := 52) (okM_does l) wcM_does (am_m5 (i := 142) rfl rfl) wiM_does wsM_does inM rfl (by decide) (by decide +kernel) (by decide) (by decide)
  | 2, h => cases h; exact am_callV (T := F_11) (N := 52) (okM_follows l) wcM_follows (am_m5 (i := 165) rfl rfl) wiM_follows wsM_follows inM rfl (by decide) (by decide +kernel) (by decide) (by decide)
  | 3, h => cases h; exact am_callV (T := F_11) (N := 52) (okM_wanting l) wcM_wanting (am_m5 (i := 146) rfl rfl) wiM_wanting wsM_wanting inM rfl (by decide) (by decide +kernel) (by decide) (by decide)
  | k + 4, h => simp [csM_goesBy] at h
theorem okM_goesBy (l : Launch) : am_Ok l yM_goesBy prog_13_method_36_code 3 none 3 spM_goesBy := am_ok_of (by decide +kernel) flM_ok kiM_ok klM_ok ckM_goesBy (clM_goesBy l) wpM_goesBy
