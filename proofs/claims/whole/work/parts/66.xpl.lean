/-! the class's trial -/
theorem pxH {D : am_D} {P : mw_T} {kp : Nat} (h : Nat) (hp : px D kp P) : px (am_up D kp 4 (nI h)) kp (pH P h) := by
  obtain ⟨p1, p2, p3, p4, p5, p6⟩ := hp
  refine ⟨?_, ?_, ?_, ?_, fun d hd => ?_, fun i hi => ?_⟩
  · rw [ap, if_pos rfl, if_neg (by decide)]; exact p1
  · rw [ap, if_pos rfl, if_pos rfl]; simp [pH, up2]
  · rw [ap, if_pos rfl, if_neg (by decide)]; exact p3
  · rw [ap, if_pos rfl, if_neg (by decide)]; exact p4
  · rw [am_up_ne (by omega), am_up_ne (by omega)]; exact p5 d hd
  · rw [am_up_ne (by omega)]; exact p6 i hi
theorem pxR {D : am_D} {P : mw_T} {kp : Nat} (h : Nat) (hp : px D kp P) : px (am_up D kp 5 (nI h)) kp (pR P h) := by
  obtain ⟨p1, p2, p3, p4, p5, p6⟩ := hp
  refine ⟨?_, ?_, ?_, ?_, fun d hd => ?_, fun i hi => ?_⟩
  · rw [ap, if_pos rfl, if_neg (by decide)]; exact p1
  · rw [ap, if_pos rfl, if_neg (by decide)]; exact p2
  · rw [ap, if_pos rfl, if_pos rfl]; simp [pR, up2]
  · rw [ap, if_pos rfl, if_neg (by decide)]; exact p4
  · rw [am_up_ne (by omega), am_up_ne (by omega)]; exact p5 d hd
  · rw [am_up_ne (by omega)]; exact p6 i hi
theorem pxA {D : am_D} {P : mw_T} {kp : Nat} (a : Int32) (hp : px D kp P) : px (am_up D kp 7 a) kp P := by
  obtain ⟨p1, p2, p3, p4, p5, p6⟩ := hp
  refine ⟨?_, ?_, ?_, ?_, fun d hd => ?_, fun i hi => ?_⟩
  · rw [ap, if_pos rfl, if_neg (by decide)]; exact p1
  · rw [ap, if_pos rfl, if_neg (by decide)]; exact p2
  · rw [ap, if_pos rfl, if_neg (by decide)]; exact p3
  · rw [ap, if_pos rfl, if_neg (by decide)]; exact p4
  · rw [am_up_ne (by omega), am_up_ne (by omega)]; exact p5 d hd
  · rw [am_up_ne (by omega)]; exact p6 i hi
theorem pxW {D : am_D} {P : mw_T} {kp d : Nat} (x : Nat) (hp : px D kp P) : px (am_up D (kp + 1) d (nI x)) kp (pW P d x) := by
  obtain ⟨p1, p2, p3, p4, p5, p6⟩ := hp
  refine ⟨?_, ?_, ?_, ?_, fun e he => ⟨?_, ?_⟩, fun i hi => ?_⟩
  · rw [am_up_ne (by omega)]; exact p1
  · rw [am_up_ne (by omega)]; exact p2
  · rw [am_up_ne (by omega)]; exact p3
  · rw [am_up_ne (by omega)]; exact p4
  · rw [ap, if_pos rfl]
    unfold pW up2
    by_cases q : e = d
    · simp [q]
    · simp [q, (p5 e he).1]
  · rw [am_up_ne (by omega)]; exact (p5 e he).2
  · rw [am_up_ne (by omega)]; exact p6 i hi
theorem px_fr4 {D D' : am_D} {P : mw_T} {lo hi : Nat} (hp : px D 18 P) (f : fr lo hi D D') (h : 21 < lo) : px D' 18 P := px_fr hp (f _ (by omega)) (f _ (by omega)) (f _ (by omega)) (f _ (by omega))
theorem pI_none {o : Option (Nat × Nat × Nat)} (h : bok o) : pI o 0 = -1 ↔ o = none := by
  cases o with
  | none => exact ⟨fun _ => rfl, fun _ => rfl⟩
  | some q =>
    obtain ⟨b, n, w⟩ := q
    have hb : b < 1000 := h.1
    refine ⟨fun e => ?_, fun e => by cases e⟩
    have e2 : nI b = -1 := e
    have := congrArg Int32.toInt e2
    rw [nI_toInt (by omega)] at this
    have e3 : (-1 : Int32).toInt = -1 := by decide
    omega
theorem swI_none {o : Option (Nat × Nat × Nat)} (h : bok o) : swI o 0 = -1 ↔ o = none := by
  cases o with
  | none => exact ⟨fun _ => rfl, fun _ => rfl⟩
  | some q =>
    obtain ⟨b, n, w⟩ := q
    have hb : b < 1000 := h.1
    refine ⟨fun e => ?_, fun e => by cases e⟩
    have e2 : nI (b / 32) = -1 := e
    have := congrArg Int32.toInt e2
    rw [nI_toInt (by omega)] at this
    have e3 : (-1 : Int32).toInt = -1 := by decide
    omega
theorem swI_2 (o : Option (Nat × Nat × Nat)) : swI o 2 = pI o 1 := by cases o <;> rfl
theorem swI_3 (o : Option (Nat × Nat × Nat)) : swI o 3 = pI o 2 := by cases o <;> rfl
def oc (D : am_D) (k : Nat) (o : Option (Nat × Nat × Nat)) : Prop := D k 0 = pI o 0 ∧ D k 2 = pI o 1 ∧ D k 3 = pI o 2 ∧ D k 4 = 1
def ocs (D : am_D) (o : Option (Nat × Nat × Nat)) : Prop := D 34 0 = swI o 0 ∧ D 34 1 = swI o 1 ∧ D 34 2 = swI o 2 ∧ D 34 3 = swI o 3 ∧ D 34 4 = 1
def fnP_take : Nat → am_Sp := fun a => match a with
  | 0 => am_copy
  | _ => am_no
theorem mfP_take : ∀ a, am_mono (fnP_take a) := fun a => match a with
  | 0 => am_copy_mono
  | _ + 1 => am_no_mono
def spP_take : am_Sp := fun as D L K => match as with
  | [.ref 18, .ref 14] => ∃ P : mw_T, px D 14 P ∧ ∀ D', fr 18 21 D D' → px D' 18 P → D' 18 7 = D 14 7 → K none D' L
  | _ => False
theorem moP_take : am_mono spP_take := by
  intro as D L K K' hK h
  unfold spP_take at h ⊢
  split at h
  · obtain ⟨z0, z1, hz⟩ := h
    exact ⟨z0, z1, fun D' q1 q2 q3 => hK _ _ _ (hz D' q1 q2 q3)⟩
  · exact h
theorem wpP_take : ∀ (as : List Value) (D : am_D) (L : am_L) (K : am_K), spP_take as D L K → am_fit 2 as = true ∧ am_Wp false 0 cdP_take fnP_take K 0 (am_lo 2 as) [] D L := by
  intro as D L K h
  unfold spP_take at h
  split at h
  · obtain ⟨P, ⟨p1, p2, p3, p4, p5, p6⟩, hK⟩ := h
    refine ⟨rfl, am_Wp_bl mfP_take [] 80 _ _ _ _ _ ?_⟩
    conv => whnf
    refine ⟨⟨rfl, rfl, by decide, by decide, by decide, by decide +kernel, by decide +kernel⟩, ?_⟩
    conv => whnf
    refine ⟨⟨rfl, rfl, by decide, by decide, by decide, by decide +kernel, by decide +kernel⟩, ?_⟩
    conv => whnf
    refine ⟨⟨rfl, rfl, by decide, by decide, by decide, by decide +kernel, by decide +kernel⟩, ?_⟩
    (repeat ((conv => whnf); (first | refine zo0 ?_ | refine zo1 ?_ | refine br_z ?_ | refine br_o ?_ | refine br_zn ?_ | refine br_on ?_ | refine nz2 ?_ | refine nz6 ?_ | refine nz32 ?_ | refine And.intro (by assumption) ?_))); (conv => whnf)
    refine hK _ (by repeat (first | exact fr_rf | refine fr_up (by decide) (by decide) ?_ | refine fr_upA (by decide) (by decide) ?_)) ⟨?_, ?_, ?_, ?_, fun d hd => ?_, fun i hi => ?_⟩ ?_
    · simp [am_up, am_upA, upd, p1]
    · simp [am_up, am_upA, upd, p2]
    · simp [am_up, am_upA, upd, p3]
    · simp [am_up, am_upA, upd, p4]
    · have e := p5 d hd
      refine ⟨?_, ?_⟩ <;> simp [am_up, am_upA, upd, va_cpy, cl0, cl12, hd, e.1, e.2]
    · have e := p6 i hi
      simp [am_up, am_upA, upd, va_cpy, cl0, cl24, hi, e]
    · simp [am_up, am_upA, upd]
  · exact absurd h id
theorem clP_take (l : Launch) : ∀ (a : Nat) (ins : Instr) (b dd : Nat), csP_take[a]? = some (ins, b, dd) → am_Call l yP_take.cls 1 ins b dd (fnP_take a) := by
  intro a ins b dd h
  match a, h with
  | 0, h => cases h; exact am_callCopy (am_m3 (i := 126) rfl rfl) (am_m3 (i := 33) rfl rfl) (am_m3 (i := 32) rfl rfl) (am_m1 (i := 14) rfl rfl) (by decide)
  | k + 1, h => simp [csP_take] at h
theorem okP_take (l : Launch) : am_Ok l yP_take prog_6_method_2_code 2 none 1 spP_take := am_ok_of (by decide +kernel) flP_ok kiP_ok klP_ok ckP_take (clP_take l) wpP_take
def fnO_clear : Nat → am_Sp := fun _ => am_no
theorem mfO_clear : ∀ a, am_mono (fnO_clear a) := fun _ => am_no_mono
def spO_clear : am_Sp := am_ini cdO_clear fnO_clear 19 1
theorem moO_clear : am_mono spO_clear := am_ini_mono mfO_clear
theorem wpO_clear : ∀ (as : List Value) (D : am_D) (L : am_L) (K : am_K), spO_clear as D L K → am_fit 1 as = true ∧ am_Wp false 0 cdO_clear fnO_clear K 0 (am_lo 1 as) [] D L := am_ini_Wp mfO_clear
theorem clO_clear (l : Launch) : ∀ (a : Nat) (ins : Instr) (b dd : Nat), csO_clear[a]? = some (ins, b, dd) → am_Call l yO_clear.cls 0 ins b dd (fnO_clear a) := by
  intro a ins b dd h
  match a, h with
  | k + 0, h => simp [csO_clear] at h
theorem okO_clear (l : Launch) : am_Ok l yO_clear prog_3_method_2_code 1 none 0 spO_clear := am_ok_of (by decide +kernel) flO_ok kiO_ok klO_ok ckO_clear (clO_clear l) wpO_clear
def fnO_offer : Nat → am_Sp := fun _ => am_no
theorem mfO_offer : ∀ a, am_mono (fnO_offer a) := fun _ => am_no_mono
def spO_offer : am_Sp := fun as D L K => match as with
  | [.ref k, .int x, .int y, .int p, .int q] => ∃ (o : Option (Nat × Nat × Nat)) (j n w : Nat), (k = 32 ∨ k = 33 ∨ k = 34) ∧ bok o ∧ p = nI n ∧ n ≤ 12 ∧ q = nI w ∧ w ≤ 48 ∧ (D k 0 = -1 ↔ o = none) ∧ D k 2 = pI o 1 ∧ D k 3 = pI o 2 ∧ ∀ D', (∀ q, q ≠ k → D' q = D q) → ((mpick o j n w = some (j, n, w) ∧ D' k 0 = x ∧ D' k 1 = y ∧ D' k 2 = nI n ∧ D' k 3 = nI w ∧ D' k 4 = D k 4) ∨ (mpick o j n w = o ∧ D' k = D k)) → K none D' L
  | _ => False
theorem moO_offer : am_mono spO_offer := by
  intro as D L K K' hK h
  unfold spO_offer at h ⊢
  split at h
  · obtain ⟨z0, z1, z2, z3, z4, z5, z6, z7, z8, z9, z10, z11, z12, hz⟩ := h
    exact ⟨z0, z1, z2, z3, z4, z5, z6, z7, z8, z9, z10, z11, z12, fun D' q1 q2 => hK _ _ _ (hz D' q1 q2)⟩
  · exact h
theorem wpO_offer : ∀ (as : List Value) (D : am_D) (L : am_L) (K : am_K), spO_offer as D L K → am_fit 6 as = true ∧ am_Wp false 0 cdO_offer fnO_offer K 0 (am_lo 6 as) [] D L := by
  intro as D L K h
  unfold spO_offer at h
  split at h
  · rename_i k x y p q
    obtain ⟨o, j, n, w, hk, ho, rfl, hn, rfl, hw, o0, o2, o3, hK⟩ := h
    rcases hk with rfl | rfl | rfl
    · have take : mpick o j n w = some (j, n, w) → K none (am_up (am_up (am_up (am_up D 32 0 x) 32 1 y) 32 2 (nI n)) 32 3 (nI w)) L := fun e => by
        refine hK _ (fun q hq => by rw [am_up_ne hq, am_up_ne hq, am_up_ne hq, am_up_ne hq]) (Or.inl ⟨e, ?_, ?_, ?_, ?_, ?_⟩) <;> simp [ap]
      have leave : mpick o j n w = o → K none D L := fun e => hK D (fun _ _ => rfl) (Or.inr ⟨e, rfl⟩)
      refine ⟨rfl, am_Wp_bl mfO_offer [] 60 _ _ _ _ _ ?_⟩
      (repeat ((conv => whnf); (first | refine zo0 ?_ | refine zo1 ?_ | refine br_z ?_ | refine br_o ?_ | refine br_zn ?_ | refine br_on ?_ | refine nz2 ?_ | refine nz6 ?_ | refine nz32 ?_ | refine And.intro (by assumption) ?_))); (conv => whnf)
      refine ⟨fun h1 => ?_, fun h1 => ?_⟩
      · have e := o0.mp h1
        (repeat ((conv => whnf); (first | refine zo0 ?_ | refine zo1 ?_ | refine br_z ?_ | refine br_o ?_ | refine br_zn ?_ | refine br_on ?_ | refine nz2 ?_ | refine nz6 ?_ | refine nz32 ?_ | refine And.intro (by assumption) ?_))); (conv => whnf)
        exact take (by rw [e]; rfl)
      cases o with
      | none => exact absurd (o0.mpr rfl) h1
      | some t =>
        obtain ⟨b, n0, w0⟩ := t
        have hb : b < 1000 ∧ n0 ≤ 12 ∧ w0 ≤ 48 := ho
        have o2' : D 32 2 = nI n0 := o2
        have o3' : D 32 3 = nI w0 := o3
        (repeat ((conv => whnf); (first | refine zo0 ?_ | refine zo1 ?_ | refine br_z ?_ | refine br_o ?_ | refine br_zn ?_ | refine br_on ?_ | refine nz2 ?_ | refine nz6 ?_ | refine nz32 ?_ | refine And.intro (by assumption) ?_))); (conv => whnf)
        rw [o2', nI_leI (by omega) (by omega)]
        refine ⟨fun h2 => ?_, fun h2 => ?_⟩
        · (repeat ((conv => whnf); (first | refine zo0 ?_ | refine zo1 ?_ | refine br_z ?_ | refine br_o ?_ | refine br_zn ?_ | refine br_on ?_ | refine nz2 ?_ | refine nz6 ?_ | refine nz32 ?_ | refine And.intro (by assumption) ?_))); (conv => whnf)
          rw [o2', nI_ltI (by omega) (by omega)]
          refine ⟨fun h3 => ?_, fun h3 => ?_⟩
          · (repeat ((conv => whnf); (first | refine zo0 ?_ | refine zo1 ?_ | refine br_z ?_ | refine br_o ?_ | refine br_zn ?_ | refine br_on ?_ | refine nz2 ?_ | refine nz6 ?_ | refine nz32 ?_ | refine And.intro (by assumption) ?_))); (conv => whnf)
            exact leave (by unfold mpick; simp only []; rw [if_neg (by omega)])
          (repeat ((conv => whnf); (first | refine zo0 ?_ | refine zo1 ?_ | refine br_z ?_ | refine br_o ?_ | refine br_zn ?_ | refine br_on ?_ | refine nz2 ?_ | refine nz6 ?_ | refine nz32 ?_ | refine And.intro (by assumption) ?_))); (conv => whnf)
          rw [o3', nI_ltI (by omega) (by omega)]
          refine ⟨fun h4 => ?_, fun h4 => ?_⟩
          · (repeat ((conv => whnf); (first | refine zo0 ?_ | refine zo1 ?_ | refine br_z ?_ | refine br_o ?_ | refine br_zn ?_ | refine br_on ?_ | refine nz2 ?_ | refine nz6 ?_ | refine nz32 ?_ | refine And.intro (by assumption) ?_))); (conv => whnf)
            exact take (by unfold mpick; simp only []; rw [if_pos (by omega)])
          · (repeat ((conv => whnf); (first | refine zo0 ?_ | refine zo1 ?_ | refine br_z ?_ | refine br_o ?_ | refine br_zn ?_ | refine br_on ?_ | refine nz2 ?_ | refine nz6 ?_ | refine nz32 ?_ | refine And.intro (by assumption) ?_))); (conv => whnf)
            exact leave (by unfold mpick; simp only []; rw [if_neg (by omega)])
        · (repeat ((conv => whnf); (first | refine zo0 ?_ | refine zo1 ?_ | refine br_z ?_ | refine br_o ?_ | refine br_zn ?_ | refine br_on ?_ | refine nz2 ?_ | refine nz6 ?_ | refine nz32 ?_ | refine And.intro (by assumption) ?_))); (conv => whnf)
          exact take (by unfold mpick; simp only []; rw [if_pos (by omega)])
    · have take : mpick o j n w = some (j, n, w) → K none (am_up (am_up (am_up (am_up D 33 0 x) 33 1 y) 33 2 (nI n)) 33 3 (nI w)) L := fun e => by
        refine hK _ (fun q hq => by rw [am_up_ne hq, am_up_ne hq, am_up_ne hq, am_up_ne hq]) (Or.inl ⟨e, ?_, ?_, ?_, ?_, ?_⟩) <;> simp [ap]
      have leave : mpick o j n w = o → K none D L := fun e => hK D (fun _ _ => rfl) (Or.inr ⟨e, rfl⟩)
      refine ⟨rfl, am_Wp_bl mfO_offer [] 60 _ _ _ _ _ ?_⟩
      (repeat ((conv => whnf); (first | refine zo0 ?_ | refine zo1 ?_ | refine br_z ?_ | refine br_o ?_ | refine br_zn ?_ | refine br_on ?_ | refine nz2 ?_ | refine nz6 ?_ | refine nz32 ?_ | refine And.intro (by assumption) ?_))); (conv => whnf)
      refine ⟨fun h1 => ?_, fun h1 => ?_⟩
      · have e := o0.mp h1
        (repeat ((conv => whnf); (first | refine zo0 ?_ | refine zo1 ?_ | refine br_z ?_ | refine br_o ?_ | refine br_zn ?_ | refine br_on ?_ | refine nz2 ?_ | refine nz6 ?_ | refine nz32 ?_ | refine And.intro (by assumption) ?_))); (conv => whnf)
        exact take (by rw [e]; rfl)
      cases o with
      | none => exact absurd (o0.mpr rfl) h1
      | some t =>
        obtain ⟨b, n0, w0⟩ := t
        have hb : b < 1000 ∧ n0 ≤ 12 ∧ w0 ≤ 48 := ho
        have o2' : D 33 2 = nI n0 := o2
        have o3' : D 33 3 = nI w0 := o3
        (repeat ((conv => whnf); (first | refine zo0 ?_ | refine zo1 ?_ | refine br_z ?_ | refine br_o ?_ | refine br_zn ?_ | refine br_on ?_ | refine nz2 ?_ | refine nz6 ?_ | refine nz32 ?_ | refine And.intro (by assumption) ?_))); (conv => whnf)
        rw [o2', nI_leI (by omega) (by omega)]
        refine ⟨fun h2 => ?_, fun h2 => ?_⟩
        · (repeat ((conv => whnf); (first | refine zo0 ?_ | refine zo1 ?_ | refine br_z ?_ | refine br_o ?_ | refine br_zn ?_ | refine br_on ?_ | refine nz2 ?_ | refine nz6 ?_ | refine nz32 ?_ | refine And.intro (by assumption) ?_))); (conv => whnf)
          rw [o2', nI_ltI (by omega) (by omega)]
          refine ⟨fun h3 => ?_, fun h3 => ?_⟩
          · (repeat ((conv => whnf); (first | refine zo0 ?_ | refine zo1 ?_ | refine br_z ?_ | refine br_o ?_ | refine br_zn ?_ | refine br_on ?_ | refine nz2 ?_ | refine nz6 ?_ | refine nz32 ?_ | refine And.intro (by assumption) ?_))); (conv => whnf)
            exact leave (by unfold mpick; simp only []; rw [if_neg (by omega)])
          (repeat ((conv => whnf); (first | refine zo0 ?_ | refine zo1 ?_ | refine br_z ?_ | refine br_o ?_ | refine br_zn ?_ | refine br_on ?_ | refine nz2 ?_ | refine nz6 ?_ | refine nz32 ?_ | refine And.intro (by assumption) ?_))); (conv => whnf)
          rw [o3', nI_ltI (by omega) (by omega)]
          refine ⟨fun h4 => ?_, fun h4 => ?_⟩
          · (repeat ((conv => whnf); (first | refine zo0 ?_ | refine zo1 ?_ | refine br_z ?_ | refine br_o ?_ | refine br_zn ?_ | refine br_on ?_ | refine nz2 ?_ | refine nz6 ?_ | refine nz32 ?_ | refine And.intro (by assumption) ?_))); (conv => whnf)
            exact take (by unfold mpick; simp only []; rw [if_pos (by omega)])
          · (repeat ((conv => whnf); (first | refine zo0 ?_ | refine zo1 ?_ | refine br_z ?_ | refine br_o ?_ | refine br_zn ?_ | refine br_on ?_ | refine nz2 ?_ | refine nz6 ?_ | refine nz32 ?_ | refine And.intro (by assumption) ?_))); (conv => whnf)
            exact leave (by unfold mpick; simp only []; rw [if_neg (by omega)])
        · (repeat ((conv => whnf); (first | refine zo0 ?_ | refine zo1 ?_ | refine br_z ?_ | refine br_o ?_ | refine br_zn ?_ | refine br_on ?_ | refine nz2 ?_ | refine nz6 ?_ | refine nz32 ?_ | refine And.intro (by assumption) ?_))); (conv => whnf)
          exact take (by unfold mpick; simp only []; rw [if_pos (by omega)])
    · have take : mpick o j n w = some (j, n, w) → K none (am_up (am_up (am_up (am_up D 34 0 x) 34 1 y) 34 2 (nI n)) 34 3 (nI w)) L := fun e => by
        refine hK _ (fun q hq => by rw [am_up_ne hq, am_up_ne hq, am_up_ne hq, am_up_ne hq]) (Or.inl ⟨e, ?_, ?_, ?_, ?_, ?_⟩) <;> simp [ap]
      have leave : mpick o j n w = o → K none D L := fun e => hK D (fun _ _ => rfl) (Or.inr ⟨e, rfl⟩)
      refine ⟨rfl, am_Wp_bl mfO_offer [] 60 _ _ _ _ _ ?_⟩
      (repeat ((conv => whnf); (first | refine zo0 ?_ | refine zo1 ?_ | refine br_z ?_ | refine br_o ?_ | refine br_zn ?_ | refine br_on ?_ | refine nz2 ?_ | refine nz6 ?_ | refine nz32 ?_ | refine And.intro (by assumption) ?_))); (conv => whnf)
      refine ⟨fun h1 => ?_, fun h1 => ?_⟩
      · have e := o0.mp h1
        (repeat ((conv => whnf); (first | refine zo0 ?_ | refine zo1 ?_ | refine br_z ?_ | refine br_o ?_ | refine br_zn ?_ | refine br_on ?_ | refine nz2 ?_ | refine nz6 ?_ | refine nz32 ?_ | refine And.intro (by assumption) ?_))); (conv => whnf)
        exact take (by rw [e]; rfl)
      cases o with
      | none => exact absurd (o0.mpr rfl) h1
      | some t =>
        obtain ⟨b, n0, w0⟩ := t
        have hb : b < 1000 ∧ n0 ≤ 12 ∧ w0 ≤ 48 := ho
        have o2' : D 34 2 = nI n0 := o2
        have o3' : D 34 3 = nI w0 := o3
        (repeat ((conv => whnf); (first | refine zo0 ?_ | refine zo1 ?_ | refine br_z ?_ | refine br_o ?_ | refine br_zn ?_ | refine br_on ?_ | refine nz2 ?_ | refine nz6 ?_ | refine nz32 ?_ | refine And.intro (by assumption) ?_))); (conv => whnf)
        rw [o2', nI_leI (by omega) (by omega)]
        refine ⟨fun h2 => ?_, fun h2 => ?_⟩
        · (repeat ((conv => whnf); (first | refine zo0 ?_ | refine zo1 ?_ | refine br_z ?_ | refine br_o ?_ | refine br_zn ?_ | refine br_on ?_ | refine nz2 ?_ | refine nz6 ?_ | refine nz32 ?_ | refine And.intro (by assumption) ?_))); (conv => whnf)
          rw [o2', nI_ltI (by omega) (by omega)]
          refine ⟨fun h3 => ?_, fun h3 => ?_⟩
          · (repeat ((conv => whnf); (first | refine zo0 ?_ | refine zo1 ?_ | refine br_z ?_ | refine br_o ?_ | refine br_zn ?_ | refine br_on ?_ | refine nz2 ?_ | refine nz6 ?_ | refine nz32 ?_ | refine And.intro (by assumption) ?_))); (conv => whnf)
            exact leave (by unfold mpick; simp only []; rw [if_neg (by omega)])
          (repeat ((conv => whnf); (first | refine zo0 ?_ | refine zo1 ?_ | refine br_z ?_ | refine br_o ?_ | refine br_zn ?_ | refine br_on ?_ | refine nz2 ?_ | refine nz6 ?_ | refine nz32 ?_ | refine And.intro (by assumption) ?_))); (conv => whnf)
          rw [o3', nI_ltI (by omega) (by omega)]
          refine ⟨fun h4 => ?_, fun h4 => ?_⟩
          · (repeat ((conv => whnf); (first | refine zo0 ?_ | refine zo1 ?_ | refine br_z ?_ | refine br_o ?_ | refine br_zn ?_ | refine br_on ?_ | refine nz2 ?_ | refine nz6 ?_ | refine nz32 ?_ | refine And.intro (by assumption) ?_))); (conv => whnf)
            exact take (by unfold mpick; simp only []; rw [if_pos (by omega)])
          · (repeat ((conv => whnf); (first | refine zo0 ?_ | refine zo1 ?_ | refine br_z ?_ | refine br_o ?_ | refine br_zn ?_ | refine br_on ?_ | refine nz2 ?_ | refine nz6 ?_ | refine nz32 ?_ | refine And.intro (by assumption) ?_))); (conv => whnf)
            exact leave (by unfold mpick; simp only []; rw [if_neg (by omega)])
        · (repeat ((conv => whnf); (first | refine zo0 ?_ | refine zo1 ?_ | refine br_z ?_ | refine br_o ?_ | refine br_zn ?_ | refine br_on ?_ | refine nz2 ?_ | refine nz6 ?_ | refine nz32 ?_ | refine And.intro (by assumption) ?_))); (conv => whnf)
          exact take (by unfold mpick; simp only []; rw [if_pos (by omega)])
  · exact absurd h id
theorem clO_offer (l : Launch) : ∀ (a : Nat) (ins : Instr) (b dd : Nat), csO_offer[a]? = some (ins, b, dd) → am_Call l yO_offer.cls 0 ins b dd (fnO_offer a) := by
  intro a ins b dd h
  match a, h with
  | k + 0, h => simp [csO_offer] at h
theorem okO_offer (l : Launch) : am_Ok l yO_offer prog_3_method_3_code 6 none 0 spO_offer := am_ok_of (by decide +kernel) flO_ok kiO_ok klO_ok ckO_offer (clO_offer l) wpO_offer
def fnO_ofOne : Nat → am_Sp := fun _ => am_no
theorem mfO_ofOne : ∀ a, am_mono (fnO_ofOne a) := fun _ => am_no_mono
def spO_ofOne : am_Sp := am_ini cdO_ofOne fnO_ofOne 17 2
theorem moO_ofOne : am_mono spO_ofOne := am_ini_mono mfO_ofOne
theorem wpO_ofOne : ∀ (as : List Value) (D : am_D) (L : am_L) (K : am_K), spO_ofOne as D L K → am_fit 2 as = true ∧ am_Wp false 0 cdO_ofOne fnO_ofOne K 0 (am_lo 2 as) [] D L := am_ini_Wp mfO_ofOne
theorem clO_ofOne (l : Launch) : ∀ (a : Nat) (ins : Instr) (b dd : Nat), csO_ofOne[a]? = some (ins, b, dd) → am_Call l yO_ofOne.cls 0 ins b dd (fnO_ofOne a) := by
  intro a ins b dd h
  match a, h with
  | k + 0, h => simp [csO_ofOne] at h
theorem okO_ofOne (l : Launch) : am_Ok l yO_ofOne prog_3_method_4_code 2 (some .int) 0 spO_ofOne := am_ok_of (by decide +kernel) flO_ok kiO_ok klO_ok ckO_ofOne (clO_ofOne l) wpO_ofOne
def fnX_better : Nat → am_Sp := fun a => match a with
  | 0 => spO_clear
  | 1 => spP_take
  | 2 => spW_run
  | 3 => spW_howManyLack
  | 4 => spO_offer
  | 5 => spO_ofOne
  | _ => am_no
theorem mfX_better : ∀ a, am_mono (fnX_better a) := fun a => match a with
  | 0 => moO_clear
  | 1 => moP_take
  | 2 => moW_run
  | 3 => moW_howManyLack
  | 4 => moO_offer
  | 5 => moO_ofOne
  | _ + 6 => am_no_mono
def spX_better : am_Sp := fun as D L K => match as with
  | [.ref 0, .int x] => ∃ v : vs_T, vok v ∧ ix D v ∧ ∀ (D' : am_D) (L' : am_L), fc D D' → ix D' v → K (some (.int (qBetter v x))) D' L'
  | _ => False
theorem moX_better : am_mono spX_better := by
  intro as D L K K' hK h
  unfold spX_better at h ⊢
  split at h
  · obtain ⟨z0, z1, z2, hz⟩ := h
    exact ⟨z0, z1, z2, fun D' L' q1 q2 => hK _ _ _ (hz D' L' q1 q2)⟩
  · exact h
theorem wpX_better : ∀ (as : List Value) (D : am_D) (L : am_L) (K : am_K), spX_better as D L K → am_fit 3 as = true ∧ am_Wp false 0 cdX_better fnX_better K 0 (am_lo 3 as) [] D L := by
  intro as D L K h
  unfold spX_better at h
  split at h
  · rename_i x
    obtain ⟨v, hv, hi, hK⟩ := h
    have kb : ¬ ((0 ≤ x ∧ x ≤ 2)) → K (some (.int (-2))) D L := fun q => by
      have k := hK D L fc_rf
      unfold qBetter at k
      by_cases c0 : (0 ≤ x ∧ x ≤ 2)
      · exact absurd c0 q
      · rw [if_neg c0] at k
        exact k hi
    have hP := vpl_ok hv
    have hE := vev_ok hv
    obtain ⟨hib, ⟨c1, c2, c3, c4, c5, c6⟩, hw⟩ := hi
    have hi : ix D v := ⟨hib, ⟨c1, c2, c3, c4, c5, c6⟩, hw⟩
    have fin : (0 ≤ x ∧ x ≤ 2) → ∀ (D' : am_D) (k2 : Option Value), fc D D' → ix D' v → oc D' 32 (aBetter v) → am_Wp false 0 cdX_better fnX_better K 104 [some (.ref 0), some (.int x), k2] [] D' L := by
      intro hx D' k2 f1 i1 o1
      have k := hK D' L f1 i1
      obtain ⟨c, hc, ec⟩ := rg_nI (n := 2) (by decide) hx
      unfold qBetter at k
      rw [if_pos hx, ec, cN_nI (by omega)] at k
      refine am_Wp_bl mfX_better [] 40 _ _ _ _ _ ?_
      rcases (show c = 0 ∨ c = 1 ∨ c = 2 by omega) with rfl | rfl | rfl
      · have ex : x = 0 := ec.trans nI_0
        subst ex
        (repeat ((conv => whnf); (first | refine zo0 ?_ | refine zo1 ?_ | refine br_z ?_ | refine br_o ?_ | refine br_zn ?_ | refine br_on ?_ | refine nz2 ?_ | refine nz6 ?_ | refine nz32 ?_ | refine And.intro (by assumption) ?_))); (conv => whnf)
        rw [o1.1]
        exact k
      · have ex : x = 1 := ec.trans nc1
        subst ex
        (repeat ((conv => whnf); (first | refine zo0 ?_ | refine zo1 ?_ | refine br_z ?_ | refine br_o ?_ | refine br_zn ?_ | refine br_on ?_ | refine nz2 ?_ | refine nz6 ?_ | refine nz32 ?_ | refine And.intro (by assumption) ?_))); (conv => whnf)
        refine ⟨fun q => absurd rfl q, fun _ => ?_⟩
        (repeat ((conv => whnf); (first | refine zo0 ?_ | refine zo1 ?_ | refine br_z ?_ | refine br_o ?_ | refine br_zn ?_ | refine br_on ?_ | refine nz2 ?_ | refine nz6 ?_ | refine nz32 ?_ | refine And.intro (by assumption) ?_))); (conv => whnf)
        rw [o1.2.1]
        exact k
      · have ex : x = 2 := ec.trans nc2
        subst ex
        (repeat ((conv => whnf); (first | refine zo0 ?_ | refine zo1 ?_ | refine br_z ?_ | refine br_o ?_ | refine br_zn ?_ | refine br_on ?_ | refine nz2 ?_ | refine nz6 ?_ | refine nz32 ?_ | refine And.intro (by assumption) ?_))); (conv => whnf)
        refine ⟨fun _ => ?_, fun q => absurd q (by decide)⟩
        (repeat ((conv => whnf); (first | refine zo0 ?_ | refine zo1 ?_ | refine br_z ?_ | refine br_o ?_ | refine br_zn ?_ | refine br_on ?_ | refine nz2 ?_ | refine nz6 ?_ | refine nz32 ?_ | refine And.intro (by assumption) ?_))); (conv => whnf)
        refine ⟨fun _ => ?_, fun q => absurd q (by decide)⟩
        (repeat ((conv => whnf); (first | refine zo0 ?_ | refine zo1 ?_ | refine br_z ?_ | refine br_o ?_ | refine br_zn ?_ | refine br_on ?_ | refine nz2 ?_ | refine nz6 ?_ | refine nz32 ?_ | refine And.intro (by assumption) ?_))); (conv => whnf)
        rw [o1.2.2.1]
        exact k
    have loop : (0 ≤ x ∧ x ≤ 2) → ∀ (m i : Nat) (D' : am_D), i + m = 3 → (∀ k, k < 18 ∨ (26 < k ∧ k ≠ 32) → D' k = D k) → (∃ Q, mw_pok Q ∧ px D' 18 Q ∧ ∀ h, pH Q h = pH (vpl v) h) → D' 18 7 = 0 → iw D' → oc D' 32 (mpicks (pH (vpl v)) (vev v) allp 0 i) → am_Wp false 0 cdX_better fnX_better K 42 [some (.ref 0), some (.int x), some (.int (nI i))] [] D' L := by
      intro hx m
      induction m with
      | zero =>
        intro i D' hm hf hq h7 hw' hc
        refine am_Wp_bl mfX_better [42, 104] 30 _ _ _ _ _ ?_
        (repeat ((conv => whnf); (first | refine zo0 ?_ | refine zo1 ?_ | refine br_z ?_ | refine br_o ?_ | refine br_zn ?_ | refine br_on ?_ | refine nz2 ?_ | refine nz6 ?_ | refine nz32 ?_ | refine And.intro (by assumption) ?_))); (conv => whnf)
        refine ⟨fun h1 => ?_, fun h1 => absurd (nI_le (a := 3) (by omega) (by omega)) h1⟩
        (repeat ((conv => whnf); (first | refine zo0 ?_ | refine zo1 ?_ | refine br_z ?_ | refine br_o ?_ | refine br_zn ?_ | refine br_on ?_ | refine nz2 ?_ | refine nz6 ?_ | refine nz32 ?_ | refine And.intro (by assumption) ?_))); (conv => whnf)
        rw [show i = 3 by omega] at hc
        have F : ∀ k, 26 < k → k ≠ 32 → D' k = D k := fun k h1 h2 => hf k (by omega)
        exact fin hx D' _ (fun k hk => hf k (by omega)) ⟨ib_fr hib (fun k hk => hf k (by omega)), ⟨icd_fr c1 (fun k _ _ => F k (by omega) (by omega)), Or.inr ⟨hc.2.2.2, hc.1, hc.2.1, hc.2.2.1⟩, icr_fr c3 (F _ (by omega) (by omega)), ics_fr c4 (F _ (by omega) (by omega)), icp_fr c5 (F _ (by omega) (by omega)), icc_fr c6 (F _ (by omega) (by omega)) (F _ (by omega) (by omega))⟩, hw'⟩ hc
      | succ m ih =>
        intro i D' hm hf hq h7 hw' hc
        obtain ⟨Q, hQ, hpx, hQh⟩ := hq
        have hR : mw_pok (pH Q i) := pH_ok hQ (by omega)
        have hex : ex D' (vev v) := ex_fr (ex_ie hib.2.2.1 hv) (hf _ (by omega)) (hf _ (by omega)) (hf _ (by omega)) (hf _ (by omega))
        have hb := mpicks_ok (P := pH (vpl v)) (pr := allp) (lo := 0) i (fun j hj => pH_ok hP (by omega)) hE (by omega)
        refine am_Wp_bl mfX_better [42] 80 _ _ _ _ _ ?_
        (repeat ((conv => whnf); (first | refine zo0 ?_ | refine zo1 ?_ | refine br_z ?_ | refine br_o ?_ | refine br_zn ?_ | refine br_on ?_ | refine nz2 ?_ | refine nz6 ?_ | refine nz32 ?_ | refine And.intro (by assumption) ?_))); (conv => whnf)
        refine ⟨fun h1 => absurd h1 (nI_ge (b := 3) (by omega) (by omega)), fun h1 => ?_⟩
        (repeat ((conv => whnf); (first | refine zo0 ?_ | refine zo1 ?_ | refine br_z ?_ | refine br_o ?_ | refine br_zn ?_ | refine br_on ?_ | refine nz2 ?_ | refine nz6 ?_ | refine nz32 ?_ | refine And.intro (by assumption) ?_))); (conv => whnf)
        have px1 := pxH i hpx
        refine ⟨pH Q i, vev v, allp, Or.inr rfl, hR, hE, px1, ex_fr hex (am_up_ne (by decide)) (am_up_ne (by decide)) (am_up_ne (by decide)) (am_up_ne (by decide)), by rw [ap, if_pos rfl, if_neg (by decide), h7]; exact prx_0, iw_fr hw' (fun k _ _ => am_up_ne (by omega)), fun D2 g f2 w2 t2 => ?_⟩
        have px2 : px D2 18 (pH Q i) := px_fr4 px1 f2 (by decide)
        (repeat ((conv => whnf); (first | refine zo0 ?_ | refine zo1 ?_ | refine br_z ?_ | refine br_o ?_ | refine br_zn ?_ | refine br_on ?_ | refine nz2 ?_ | refine nz6 ?_ | refine nz32 ?_ | refine And.intro (by assumption) ?_))); (conv => whnf)
        refine ⟨pH Q i, _, g, 48, Or.inr rfl, hR, mw_run_ok hR hE 48, px2, w2, ?_⟩
        have z2 : D2 32 = D' 32 := (f2 _ (by omega)).trans (am_up_ne (by decide))
        have ew : D2 22 13 = nI (mW (pH (vpl v) i) (vev v) allp) := by
          rw [← hQh]
          exact w2.2.2.2.2.2.2.2.2.2.1
        have en : mw_ns (pH Q i) (mw_run (pH Q i) (vev v) allp 48) 12 = mN (pH (vpl v) i) (vev v) allp := by
          rw [← hQh]
          rfl
        rw [en]
        (repeat ((conv => whnf); (first | refine zo0 ?_ | refine zo1 ?_ | refine br_z ?_ | refine br_o ?_ | refine br_zn ?_ | refine br_on ?_ | refine nz2 ?_ | refine nz6 ?_ | refine nz32 ?_ | refine And.intro (by assumption) ?_))); (conv => whnf)
        rw [ew]
        refine ⟨mpicks (pH (vpl v)) (vev v) allp 0 i, 0 + i, mN (pH (vpl v) i) (vev v) allp, mW (pH (vpl v) i) (vev v) allp, by simp, hb, rfl, mN_le _ _ _, rfl, mW_le (by rw [← hQh]; exact hR) hE, by rw [z2, hc.1]; exact pI_none hb, by rw [z2]; exact hc.2.1, by rw [z2]; exact hc.2.2.1, fun D3 f3 c3' => ?_⟩
        have f3' : ∀ q, q ≠ 32 → D3 q = D2 q := f3
        (repeat ((conv => whnf); (first | refine zo0 ?_ | refine zo1 ?_ | refine br_z ?_ | refine br_o ?_ | refine br_zn ?_ | refine br_on ?_ | refine nz2 ?_ | refine nz6 ?_ | refine nz32 ?_ | refine And.intro (by assumption) ?_))); (conv => whnf)
        rw [nI_1]
        refine ih (i + 1) D3 (by omega) (fun k hk => (f3' k (by omega)).trans ((f2 k (by omega)).trans ((am_up_ne (by omega)).trans (hf k hk)))) ⟨pH Q i, hR, px_fr px2 (f3' _ (by decide)) (f3' _ (by decide)) (f3' _ (by decide)) (f3' _ (by decide)), fun h => by rw [pH_H]; exact hQh h⟩ ?_ ⟨_, g, wx_fr w2 (f3' _ (by decide)) (f3' _ (by decide)) (f3' _ (by decide)) (f3' _ (by decide))⟩ ?_
        · rw [f3' 18 (by decide), f2 18 (by omega), ap, if_pos rfl, if_neg (by decide)]; exact h7
        · have en2 : mpicks (pH (vpl v)) (vev v) allp 0 (i + 1) = mpick (mpicks (pH (vpl v)) (vev v) allp 0 i) (0 + i) (mN (pH (vpl v) (0 + i)) (vev v) allp) (mW (pH (vpl v) (0 + i)) (vev v) allp) := rfl
          rw [en2]
          simp only [Nat.zero_add] at c3'
          simp only [Nat.zero_add]
          rcases c3' with ⟨e1, e2, e3, e4, e5, e6⟩ | ⟨e1, e2⟩
          · rw [e1]
            exact ⟨e2, e4, e5, by rw [e6, z2]; exact hc.2.2.2⟩
          · rw [e1]
            unfold oc
            rw [e2, z2]
            exact hc
    refine ⟨rfl, am_Wp_bl mfX_better [42, 104] 80 _ _ _ _ _ ?_⟩
    (repeat ((conv => whnf); (first | refine zo0 ?_ | refine zo1 ?_ | refine br_z ?_ | refine br_o ?_ | refine br_zn ?_ | refine br_on ?_ | refine nz2 ?_ | refine nz6 ?_ | refine nz32 ?_ | refine And.intro (by assumption) ?_))); (conv => whnf)
    refine ⟨fun h1 => ?_, fun h1 => ?_⟩
    · (repeat ((conv => whnf); (first | refine zo0 ?_ | refine zo1 ?_ | refine br_z ?_ | refine br_o ?_ | refine br_zn ?_ | refine br_on ?_ | refine nz2 ?_ | refine nz6 ?_ | refine nz32 ?_ | refine And.intro (by assumption) ?_))); (conv => whnf)
      exact kb (rn0 h1)
    (repeat ((conv => whnf); (first | refine zo0 ?_ | refine zo1 ?_ | refine br_z ?_ | refine br_o ?_ | refine br_zn ?_ | refine br_on ?_ | refine nz2 ?_ | refine nz6 ?_ | refine nz32 ?_ | refine And.intro (by assumption) ?_))); (conv => whnf)
    refine ⟨fun h2 => ?_, fun h2 => ?_⟩
    rotate_left
    · (repeat ((conv => whnf); (first | refine zo0 ?_ | refine zo1 ?_ | refine br_z ?_ | refine br_o ?_ | refine br_zn ?_ | refine br_on ?_ | refine nz2 ?_ | refine nz6 ?_ | refine nz32 ?_ | refine And.intro (by assumption) ?_))); (conv => whnf)
      exact kb (rn2 h2)
    have hx : 0 ≤ x ∧ x ≤ 2 := ⟨Int32.not_lt.mp h1, h2⟩
    (repeat ((conv => whnf); (first | refine zo0 ?_ | refine zo1 ?_ | refine br_z ?_ | refine br_o ?_ | refine br_zn ?_ | refine br_on ?_ | refine nz2 ?_ | refine nz6 ?_ | refine nz32 ?_ | refine And.intro (by assumption) ?_))); (conv => whnf)
    refine ⟨fun h3 => ?_, fun h3 => ?_⟩
    · rcases c2 with q | q
      · exact absurd q h3
      · (repeat ((conv => whnf); (first | refine zo0 ?_ | refine zo1 ?_ | refine br_z ?_ | refine br_o ?_ | refine br_zn ?_ | refine br_on ?_ | refine nz2 ?_ | refine nz6 ?_ | refine nz32 ?_ | refine And.intro (by assumption) ?_))); (conv => whnf)
        exact fin hx D _ fc_rf hi ⟨q.2.1, q.2.2.1, q.2.2.2, q.1⟩
    (repeat ((conv => whnf); (first | refine zo0 ?_ | refine zo1 ?_ | refine br_z ?_ | refine br_o ?_ | refine br_zn ?_ | refine br_on ?_ | refine nz2 ?_ | refine nz6 ?_ | refine nz32 ?_ | refine And.intro (by assumption) ?_))); (conv => whnf)
    obtain ⟨D1, hD1⟩ : ∃ D1, am_up (am_up (am_up (am_up (am_up D 32 0 (-1)) 32 1 (-1)) 32 2 (-1)) 32 3 (-1)) 32 4 1 = D1 := ⟨_, rfl⟩
    rw [hD1]
    have f1 : ∀ k, k ≠ 32 → D1 k = D k := fun k hk => by rw [← hD1, am_up_ne hk, am_up_ne hk, am_up_ne hk, am_up_ne hk, am_up_ne hk]
    have o1 : oc D1 32 none := by
      rw [← hD1]
      refine ⟨?_, ?_, ?_, ?_⟩ <;> simp [ap, pI]
    refine ⟨vpl v, px_fr hib.2.1.1 (f1 _ (by decide)) (f1 _ (by decide)) (f1 _ (by decide)) (f1 _ (by decide)), fun D2 f2 p2 a2 => ?_⟩
    (repeat ((conv => whnf); (first | refine zo0 ?_ | refine zo1 ?_ | refine br_z ?_ | refine br_o ?_ | refine br_zn ?_ | refine br_on ?_ | refine nz2 ?_ | refine nz6 ?_ | refine nz32 ?_ | refine And.intro (by assumption) ?_))); (conv => whnf)
    refine loop hx 3 0 D2 (by omega) (fun k hk => (f2 k (by omega)).trans (f1 k (by omega))) ⟨vpl v, hP, p2, fun _ => rfl⟩ ?_ (iw_fr hw (fun k _ _ => (f2 k (by omega)).trans (f1 k (by omega)))) ?_
    · rw [a2, f1 14 (by decide)]; exact hib.2.1.2
    · unfold oc
      rw [f2 32 (by omega)]
      exact o1
  · exact absurd h id
theorem clX_better (l : Launch) : ∀ (a : Nat) (ins : Instr) (b dd : Nat), csX_better[a]? = some (ins, b, dd) → am_Call l yX_better.cls 4 ins b dd (fnX_better a) := by
  intro a ins b dd h
  match a, h with
  | 0, h => cases h; exact am_callV (T := F_1) (N := 5) (okO_clear l) wcO_clear (am_m3 (i := 118) rfl rfl) wiO_clear wsO_clear inO rfl (by decide) (by decide +kernel) (by decide) (by decide)
  | 1, h => cases h; exact am_callV (T := F_4) (N := 8) (okP_take l) wcP_take (am_m3 (i := 122) rfl rfl) wiP_take wsP_take inP rfl (by decide) (by decide +kernel) (by decide) (by decide)
  | 2, h => cases h; exact am_callV (T := F_9) (N := 17) (okW_run l) wcW_run (am_m3 (i := 22) rfl rfl) wiW_run wsW_run inW rfl (by decide) (by decide +kernel) (by decide) (by decide)
  | 3, h => cases h; exact am_callV (T := F_9) (N := 17) (okW_howManyLack l) wcW_howManyLack (am_m3 (i := 127) rfl rfl) wiW_howManyLack wsW_howManyLack inW rfl (by decide) (by decide +kernel) (by decide) (by decide)
  | 4, h => cases h; exact am_callV (T := F_1) (N := 5) (okO_offer l) wcO_offer (am_m3 (i := 138) rfl rfl) wiO_offer wsO_offer inO rfl (by decide) (by decide +kernel) (by decide) (by decide)
  | 5, h => cases h; exact am_callV (T := F_1) (N := 5) (okO_ofOne l) wcO_ofOne (am_m3 (i := 142) rfl rfl) wiO_ofOne wsO_ofOne inO rfl (by decide) (by decide +kernel) (by decide) (by decide)
  | k + 6, h => simp [csX_better] at h
theorem okX_better (l : Launch) : am_Ok l yX_better prog_1_method_18_code 3 (some .int) 4 spX_better := am_ok_of (by decide +kernel) flX_ok kiX_ok klX_ok ckX_better (clX_better l) wpX_better
def fnX_fit : Nat → am_Sp := fun a => match a with
  | 0 => spO_clear
  | 1 => spP_take
  | 2 => spW_run
  | 3 => spW_howManyLack
  | 4 => spO_offer
  | 5 => spO_ofOne
  | _ => am_no
theorem mfX_fit : ∀ a, am_mono (fnX_fit a) := fun a => match a with
  | 0 => moO_clear
  | 1 => moP_take
  | 2 => moW_run
  | 3 => moW_howManyLack
  | 4 => moO_offer
  | 5 => moO_ofOne
  | _ + 6 => am_no_mono
def spX_fit : am_Sp := fun as D L K => match as with
  | [.ref 0, .int x] => ∃ v : vs_T, vok v ∧ ix D v ∧ ∀ (D' : am_D) (L' : am_L), fc D D' → ix D' v → K (some (.int (qFit v x))) D' L'
  | _ => False
theorem moX_fit : am_mono spX_fit := by
  intro as D L K K' hK h
  unfold spX_fit at h ⊢
  split at h
  · obtain ⟨z0, z1, z2, hz⟩ := h
    exact ⟨z0, z1, z2, fun D' L' q1 q2 => hK _ _ _ (hz D' L' q1 q2)⟩
  · exact h
theorem wpX_fit : ∀ (as : List Value) (D : am_D) (L : am_L) (K : am_K), spX_fit as D L K → am_fit 3 as = true ∧ am_Wp false 0 cdX_fit fnX_fit K 0 (am_lo 3 as) [] D L := by
  intro as D L K h
  unfold spX_fit at h
  split at h
  · rename_i x
    obtain ⟨v, hv, hi, hK⟩ := h
    have kb : ¬ ((0 ≤ x ∧ x ≤ 2)) → K (some (.int (-2))) D L := fun q => by
      have k := hK D L fc_rf
      unfold qFit at k
      by_cases c0 : (0 ≤ x ∧ x ≤ 2)
      · exact absurd c0 q
      · rw [if_neg c0] at k
        exact k hi
    have hP := vpl_ok hv
    have hE := vev_ok hv
    obtain ⟨hib, ⟨c1, c2, c3, c4, c5, c6⟩, hw⟩ := hi
    have hi : ix D v := ⟨hib, ⟨c1, c2, c3, c4, c5, c6⟩, hw⟩
    have fin : (0 ≤ x ∧ x ≤ 2) → ∀ (D' : am_D) (k2 : Option Value), fc D D' → ix D' v → oc D' 33 (aFit v) → am_Wp false 0 cdX_fit fnX_fit K 105 [some (.ref 0), some (.int x), k2] [] D' L := by
      intro hx D' k2 f1 i1 o1
      have k := hK D' L f1 i1
      obtain ⟨c, hc, ec⟩ := rg_nI (n := 2) (by decide) hx
      unfold qFit at k
      rw [if_pos hx, ec, cN_nI (by omega)] at k
      refine am_Wp_bl mfX_fit [] 40 _ _ _ _ _ ?_
      rcases (show c = 0 ∨ c = 1 ∨ c = 2 by omega) with rfl | rfl | rfl
      · have ex : x = 0 := ec.trans nI_0
        subst ex
        (repeat ((conv => whnf); (first | refine zo0 ?_ | refine zo1 ?_ | refine br_z ?_ | refine br_o ?_ | refine br_zn ?_ | refine br_on ?_ | refine nz2 ?_ | refine nz6 ?_ | refine nz32 ?_ | refine And.intro (by assumption) ?_))); (conv => whnf)
        rw [o1.1]
        exact k
      · have ex : x = 1 := ec.trans nc1
        subst ex
        (repeat ((conv => whnf); (first | refine zo0 ?_ | refine zo1 ?_ | refine br_z ?_ | refine br_o ?_ | refine br_zn ?_ | refine br_on ?_ | refine nz2 ?_ | refine nz6 ?_ | refine nz32 ?_ | refine And.intro (by assumption) ?_))); (conv => whnf)
        refine ⟨fun q => absurd rfl q, fun _ => ?_⟩
        (repeat ((conv => whnf); (first | refine zo0 ?_ | refine zo1 ?_ | refine br_z ?_ | refine br_o ?_ | refine br_zn ?_ | refine br_on ?_ | refine nz2 ?_ | refine nz6 ?_ | refine nz32 ?_ | refine And.intro (by assumption) ?_))); (conv => whnf)
        rw [o1.2.1]
        exact k
      · have ex : x = 2 := ec.trans nc2
        subst ex
        (repeat ((conv => whnf); (first | refine zo0 ?_ | refine zo1 ?_ | refine br_z ?_ | refine br_o ?_ | refine br_zn ?_ | refine br_on ?_ | refine nz2 ?_ | refine nz6 ?_ | refine nz32 ?_ | refine And.intro (by assumption) ?_))); (conv => whnf)
        refine ⟨fun _ => ?_, fun q => absurd q (by decide)⟩
        (repeat ((conv => whnf); (first | refine zo0 ?_ | refine zo1 ?_ | refine br_z ?_ | refine br_o ?_ | refine br_zn ?_ | refine br_on ?_ | refine nz2 ?_ | refine nz6 ?_ | refine nz32 ?_ | refine And.intro (by assumption) ?_))); (conv => whnf)
        refine ⟨fun _ => ?_, fun q => absurd q (by decide)⟩
        (repeat ((conv => whnf); (first | refine zo0 ?_ | refine zo1 ?_ | refine br_z ?_ | refine br_o ?_ | refine br_zn ?_ | refine br_on ?_ | refine nz2 ?_ | refine nz6 ?_ | refine nz32 ?_ | refine And.intro (by assumption) ?_))); (conv => whnf)
        rw [o1.2.2.1]
        exact k
    have loop : (0 ≤ x ∧ x ≤ 2) → ∀ (m i : Nat) (D' : am_D), i + m = 8 → (∀ k, k < 18 ∨ (26 < k ∧ k ≠ 33) → D' k = D k) → (∃ Q, mw_pok Q ∧ px D' 18 Q ∧ ∀ h, pR Q h = pR (vpl v) h) → D' 18 7 = 0 → iw D' → oc D' 33 (mpicks (pR (vpl v)) (vev v) allp 1 i) → am_Wp false 0 cdX_fit fnX_fit K 42 [some (.ref 0), some (.int x), some (.int (nI (1 + i)))] [] D' L := by
      intro hx m
      induction m with
      | zero =>
        intro i D' hm hf hq h7 hw' hc
        refine am_Wp_bl mfX_fit [42, 105] 30 _ _ _ _ _ ?_
        (repeat ((conv => whnf); (first | refine zo0 ?_ | refine zo1 ?_ | refine br_z ?_ | refine br_o ?_ | refine br_zn ?_ | refine br_on ?_ | refine nz2 ?_ | refine nz6 ?_ | refine nz32 ?_ | refine And.intro (by assumption) ?_))); (conv => whnf)
        refine ⟨fun h1 => ?_, fun h1 => absurd (nI_lt (a := 8) (b := 1 + i) (by omega) (by omega)) h1⟩
        (repeat ((conv => whnf); (first | refine zo0 ?_ | refine zo1 ?_ | refine br_z ?_ | refine br_o ?_ | refine br_zn ?_ | refine br_on ?_ | refine nz2 ?_ | refine nz6 ?_ | refine nz32 ?_ | refine And.intro (by assumption) ?_))); (conv => whnf)
        rw [show i = 8 by omega] at hc
        have F : ∀ k, 26 < k → k ≠ 33 → D' k = D k := fun k h1 h2 => hf k (by omega)
        exact fin hx D' _ (fun k hk => hf k (by omega)) ⟨ib_fr hib (fun k hk => hf k (by omega)), ⟨icd_fr c1 (fun k _ _ => F k (by omega) (by omega)), ich_fr c2 (F _ (by omega) (by omega)), Or.inr ⟨hc.2.2.2, hc.1, hc.2.1, hc.2.2.1⟩, ics_fr c4 (F _ (by omega) (by omega)), icp_fr c5 (F _ (by omega) (by omega)), icc_fr c6 (F _ (by omega) (by omega)) (F _ (by omega) (by omega))⟩, hw'⟩ hc
      | succ m ih =>
        intro i D' hm hf hq h7 hw' hc
        obtain ⟨Q, hQ, hpx, hQh⟩ := hq
        have hR : mw_pok (pR Q (1 + i)) := pR_ok hQ (by omega) (by omega)
        have hex : ex D' (vev v) := ex_fr (ex_ie hib.2.2.1 hv) (hf _ (by omega)) (hf _ (by omega)) (hf _ (by omega)) (hf _ (by omega))
        have hb := mpicks_ok (P := pR (vpl v)) (pr := allp) (lo := 1) i (fun j hj => pR_ok hP (by omega) (by omega)) hE (by omega)
        refine am_Wp_bl mfX_fit [42] 80 _ _ _ _ _ ?_
        (repeat ((conv => whnf); (first | refine zo0 ?_ | refine zo1 ?_ | refine br_z ?_ | refine br_o ?_ | refine br_zn ?_ | refine br_on ?_ | refine nz2 ?_ | refine nz6 ?_ | refine nz32 ?_ | refine And.intro (by assumption) ?_))); (conv => whnf)
        refine ⟨fun h1 => absurd h1 (nI_nlt (a := 8) (b := 1 + i) (by omega) (by omega)), fun h1 => ?_⟩
        (repeat ((conv => whnf); (first | refine zo0 ?_ | refine zo1 ?_ | refine br_z ?_ | refine br_o ?_ | refine br_zn ?_ | refine br_on ?_ | refine nz2 ?_ | refine nz6 ?_ | refine nz32 ?_ | refine And.intro (by assumption) ?_))); (conv => whnf)
        have px1 := pxR (1 + i) hpx
        refine ⟨pR Q (1 + i), vev v, allp, Or.inr rfl, hR, hE, px1, ex_fr hex (am_up_ne (by decide)) (am_up_ne (by decide)) (am_up_ne (by decide)) (am_up_ne (by decide)), by rw [ap, if_pos rfl, if_neg (by decide), h7]; exact prx_0, iw_fr hw' (fun k _ _ => am_up_ne (by omega)), fun D2 g f2 w2 t2 => ?_⟩
        have px2 : px D2 18 (pR Q (1 + i)) := px_fr4 px1 f2 (by decide)
        (repeat ((conv => whnf); (first | refine zo0 ?_ | refine zo1 ?_ | refine br_z ?_ | refine br_o ?_ | refine br_zn ?_ | refine br_on ?_ | refine nz2 ?_ | refine nz6 ?_ | refine nz32 ?_ | refine And.intro (by assumption) ?_))); (conv => whnf)
        refine ⟨pR Q (1 + i), _, g, 48, Or.inr rfl, hR, mw_run_ok hR hE 48, px2, w2, ?_⟩
        have z2 : D2 33 = D' 33 := (f2 _ (by omega)).trans (am_up_ne (by decide))
        have ew : D2 22 13 = nI (mW (pR (vpl v) (1 + i)) (vev v) allp) := by
          rw [← hQh]
          exact w2.2.2.2.2.2.2.2.2.2.1
        have en : mw_ns (pR Q (1 + i)) (mw_run (pR Q (1 + i)) (vev v) allp 48) 12 = mN (pR (vpl v) (1 + i)) (vev v) allp := by
          rw [← hQh]
          rfl
        rw [en]
        (repeat ((conv => whnf); (first | refine zo0 ?_ | refine zo1 ?_ | refine br_z ?_ | refine br_o ?_ | refine br_zn ?_ | refine br_on ?_ | refine nz2 ?_ | refine nz6 ?_ | refine nz32 ?_ | refine And.intro (by assumption) ?_))); (conv => whnf)
        rw [ew]
        refine ⟨mpicks (pR (vpl v)) (vev v) allp 1 i, 1 + i, mN (pR (vpl v) (1 + i)) (vev v) allp, mW (pR (vpl v) (1 + i)) (vev v) allp, by simp, hb, rfl, mN_le _ _ _, rfl, mW_le (by rw [← hQh]; exact hR) hE, by rw [z2, hc.1]; exact pI_none hb, by rw [z2]; exact hc.2.1, by rw [z2]; exact hc.2.2.1, fun D3 f3 c3' => ?_⟩
        have f3' : ∀ q, q ≠ 33 → D3 q = D2 q := f3
        (repeat ((conv => whnf); (first | refine zo0 ?_ | refine zo1 ?_ | refine br_z ?_ | refine br_o ?_ | refine br_zn ?_ | refine br_on ?_ | refine nz2 ?_ | refine nz6 ?_ | refine nz32 ?_ | refine And.intro (by assumption) ?_))); (conv => whnf)
        rw [nI_1, Nat.add_assoc]
        refine ih (i + 1) D3 (by omega) (fun k hk => (f3' k (by omega)).trans ((f2 k (by omega)).trans ((am_up_ne (by omega)).trans (hf k hk)))) ⟨pR Q (1 + i), hR, px_fr px2 (f3' _ (by decide)) (f3' _ (by decide)) (f3' _ (by decide)) (f3' _ (by decide)), fun h => by rw [pR_R]; exact hQh h⟩ ?_ ⟨_, g, wx_fr w2 (f3' _ (by decide)) (f3' _ (by decide)) (f3' _ (by decide)) (f3' _ (by decide))⟩ ?_
        · rw [f3' 18 (by decide), f2 18 (by omega), ap, if_pos rfl, if_neg (by decide)]; exact h7
        · have en2 : mpicks (pR (vpl v)) (vev v) allp 1 (i + 1) = mpick (mpicks (pR (vpl v)) (vev v) allp 1 i) (1 + i) (mN (pR (vpl v) (1 + i)) (vev v) allp) (mW (pR (vpl v) (1 + i)) (vev v) allp) := rfl
          rw [en2]
          skip
          skip
          rcases c3' with ⟨e1, e2, e3, e4, e5, e6⟩ | ⟨e1, e2⟩
          · rw [e1]
            exact ⟨e2, e4, e5, by rw [e6, z2]; exact hc.2.2.2⟩
          · rw [e1]
            unfold oc
            rw [e2, z2]
            exact hc
    refine ⟨rfl, am_Wp_bl mfX_fit [42, 105] 80 _ _ _ _ _ ?_⟩
    (repeat ((conv => whnf); (first | refine zo0 ?_ | refine zo1 ?_ | refine br_z ?_ | refine br_o ?_ | refine br_zn ?_ | refine br_on ?_ | refine nz2 ?_ | refine nz6 ?_ | refine nz32 ?_ | refine And.intro (by assumption) ?_))); (conv => whnf)
    refine ⟨fun h1 => ?_, fun h1 => ?_⟩
    · (repeat ((conv => whnf); (first | refine zo0 ?_ | refine zo1 ?_ | refine br_z ?_ | refine br_o ?_ | refine br_zn ?_ | refine br_on ?_ | refine nz2 ?_ | refine nz6 ?_ | refine nz32 ?_ | refine And.intro (by assumption) ?_))); (conv => whnf)
      exact kb (rn0 h1)
    (repeat ((conv => whnf); (first | refine zo0 ?_ | refine zo1 ?_ | refine br_z ?_ | refine br_o ?_ | refine br_zn ?_ | refine br_on ?_ | refine nz2 ?_ | refine nz6 ?_ | refine nz32 ?_ | refine And.intro (by assumption) ?_))); (conv => whnf)
    refine ⟨fun h2 => ?_, fun h2 => ?_⟩
    rotate_left
    · (repeat ((conv => whnf); (first | refine zo0 ?_ | refine zo1 ?_ | refine br_z ?_ | refine br_o ?_ | refine br_zn ?_ | refine br_on ?_ | refine nz2 ?_ | refine nz6 ?_ | refine nz32 ?_ | refine And.intro (by assumption) ?_))); (conv => whnf)
      exact kb (rn2 h2)
    have hx : 0 ≤ x ∧ x ≤ 2 := ⟨Int32.not_lt.mp h1, h2⟩
    (repeat ((conv => whnf); (first | refine zo0 ?_ | refine zo1 ?_ | refine br_z ?_ | refine br_o ?_ | refine br_zn ?_ | refine br_on ?_ | refine nz2 ?_ | refine nz6 ?_ | refine nz32 ?_ | refine And.intro (by assumption) ?_))); (conv => whnf)
    refine ⟨fun h3 => ?_, fun h3 => ?_⟩
    · rcases c3 with q | q
      · exact absurd q h3
      · (repeat ((conv => whnf); (first | refine zo0 ?_ | refine zo1 ?_ | refine br_z ?_ | refine br_o ?_ | refine br_zn ?_ | refine br_on ?_ | refine nz2 ?_ | refine nz6 ?_ | refine nz32 ?_ | refine And.intro (by assumption) ?_))); (conv => whnf)
        exact fin hx D _ fc_rf hi ⟨q.2.1, q.2.2.1, q.2.2.2, q.1⟩
    (repeat ((conv => whnf); (first | refine zo0 ?_ | refine zo1 ?_ | refine br_z ?_ | refine br_o ?_ | refine br_zn ?_ | refine br_on ?_ | refine nz2 ?_ | refine nz6 ?_ | refine nz32 ?_ | refine And.intro (by assumption) ?_))); (conv => whnf)
    obtain ⟨D1, hD1⟩ : ∃ D1, am_up (am_up (am_up (am_up (am_up D 33 0 (-1)) 33 1 (-1)) 33 2 (-1)) 33 3 (-1)) 33 4 1 = D1 := ⟨_, rfl⟩
    rw [hD1]
    have f1 : ∀ k, k ≠ 33 → D1 k = D k := fun k hk => by rw [← hD1, am_up_ne hk, am_up_ne hk, am_up_ne hk, am_up_ne hk, am_up_ne hk]
    have o1 : oc D1 33 none := by
      rw [← hD1]
      refine ⟨?_, ?_, ?_, ?_⟩ <;> simp [ap, pI]
    refine ⟨vpl v, px_fr hib.2.1.1 (f1 _ (by decide)) (f1 _ (by decide)) (f1 _ (by decide)) (f1 _ (by decide)), fun D2 f2 p2 a2 => ?_⟩
    (repeat ((conv => whnf); (first | refine zo0 ?_ | refine zo1 ?_ | refine br_z ?_ | refine br_o ?_ | refine br_zn ?_ | refine br_on ?_ | refine nz2 ?_ | refine nz6 ?_ | refine nz32 ?_ | refine And.intro (by assumption) ?_))); (conv => whnf)
    refine loop hx 8 0 D2 (by omega) (fun k hk => (f2 k (by omega)).trans (f1 k (by omega))) ⟨vpl v, hP, p2, fun _ => rfl⟩ ?_ (iw_fr hw (fun k _ _ => (f2 k (by omega)).trans (f1 k (by omega)))) ?_
    · rw [a2, f1 14 (by decide)]; exact hib.2.1.2
    · unfold oc
      rw [f2 33 (by omega)]
      exact o1
  · exact absurd h id
theorem clX_fit (l : Launch) : ∀ (a : Nat) (ins : Instr) (b dd : Nat), csX_fit[a]? = some (ins, b, dd) → am_Call l yX_fit.cls 4 ins b dd (fnX_fit a) := by
  intro a ins b dd h
  match a, h with
  | 0, h => cases h; exact am_callV (T := F_1) (N := 5) (okO_clear l) wcO_clear (am_m3 (i := 118) rfl rfl) wiO_clear wsO_clear inO rfl (by decide) (by decide +kernel) (by decide) (by decide)
  | 1, h => cases h; exact am_callV (T := F_4) (N := 8) (okP_take l) wcP_take (am_m3 (i := 122) rfl rfl) wiP_take wsP_take inP rfl (by decide) (by decide +kernel) (by decide) (by decide)
  | 2, h => cases h; exact am_callV (T := F_9) (N := 17) (okW_run l) wcW_run (am_m3 (i := 22) rfl rfl) wiW_run wsW_run inW rfl (by decide) (by decide +kernel) (by decide) (by decide)
  | 3, h => cases h; exact am_callV (T := F_9) (N := 17) (okW_howManyLack l) wcW_howManyLack (am_m3 (i := 127) rfl rfl) wiW_howManyLack wsW_howManyLack inW rfl (by decide) (by decide +kernel) (by decide) (by decide)
  | 4, h => cases h; exact am_callV (T := F_1) (N := 5) (okO_offer l) wcO_offer (am_m3 (i := 138) rfl rfl) wiO_offer wsO_offer inO rfl (by decide) (by decide +kernel) (by decide) (by decide)
  | 5, h => cases h; exact am_callV (T := F_1) (N := 5) (okO_ofOne l) wcO_ofOne (am_m3 (i := 142) rfl rfl) wiO_ofOne wsO_ofOne inO rfl (by decide) (by decide +kernel) (by decide) (by decide)
  | k + 6, h => simp [csX_fit] at h
theorem okX_fit (l : Launch) : am_Ok l yX_fit prog_1_method_19_code 3 (some .int) 4 spX_fit := am_ok_of (by decide +kernel) flX_ok kiX_ok klX_ok ckX_fit (clX_fit l) wpX_fit
