/-! the model's cells and the numbers -/
def fm (D D' : am_D) : Prop := (∀ k, k ≠ 49 → k < 61 ∨ 63 < k → D' k = D k) ∧ ∀ j, j < 16 ∨ 27 < j → D' 49 j = D 49 j
theorem fm_rf {D : am_D} : fm D D := ⟨fun _ _ _ => rfl, fun _ _ => rfl⟩
theorem fm_up {D D' : am_D} {j : Nat} {v : Int32} (h1 : 16 ≤ j) (h2 : j ≤ 27) (h : fm D D') : fm D (am_up D' 49 j v) := ⟨fun k hk hq => by rw [am_up_ne hk]; exact h.1 k hk hq, fun i hi => by
  rw [am_up_eq]
  unfold upd
  rw [if_neg (by omega)]
  exact h.2 i hi⟩
theorem fm_upA {D D' : am_D} {k j : Nat} {v : Int32} (h1 : 61 ≤ k) (h2 : k ≤ 63) (h : fm D D') : fm D (am_up D' k j v) := ⟨fun q hk hq => by rw [am_up_ne (by omega)]; exact h.1 q hk hq, fun i hi => by rw [am_up_ne (by omega)]; exact h.2 i hi⟩
theorem fm_tr {D D' D'' : am_D} (h1 : fm D D') (h2 : fm D' D'') : fm D D'' := ⟨fun k a b => (h2.1 k a b).trans (h1.1 k a b), fun j hj => (h2.2 j hj).trans (h1.2 j hj)⟩
def wm (D : am_D) (w : mw_T) (g : Int32) : Prop := (∀ d, d < 12 → D 61 d = nI (w 1 d) ∧ D 62 d = nI (w 2 d) ∧ D 63 d = nI (w 3 d)) ∧ D 49 16 = nI (w 0 0) ∧ D 49 17 = nI (w 0 1) ∧ D 49 18 = nI (w 0 3) ∧ D 49 19 = nI (w 0 4) ∧ D 49 20 = nI (w 0 2) ∧ D 49 21 = nI (w 0 5) ∧ D 49 22 = nI (w 0 6) ∧ D 49 23 = g ∧ D 49 24 = nI (w 0 8) ∧ D 49 25 = nI (w 0 9) ∧ D 49 26 = nI (w 0 10) ∧ D 49 27 = nI (w 0 11)
/-- the plan that the model goes by -/
def pm (D : am_D) (P : mw_T) : Prop := D 49 4 = nI (P 0 0) ∧ D 49 13 = nI (P 0 1) ∧ D 49 14 = nI (P 0 2) ∧ D 55 2 = nI (P 0 3) ∧ (∀ d, d < 12 → D 59 d = nI (P 1 d) ∧ D 53 d = nI (P 2 d)) ∧ ∀ i, i < P 0 0 → D 60 i = nI (P 3 i)
def em (D : am_D) (E : mw_T) : Prop := D 49 7 = nI (E 0 0) ∧ ∀ i, i < E 0 0 → D 56 i = nI (E 1 i) ∧ D 57 i = nI (E 2 i) ∧ D 58 i = nI (E 3 i)
theorem pm_fr {D D' : am_D} {P : mw_T} (h : pm D P) (f : fm D D') : pm D' P := by
  unfold pm at h ⊢
  rw [f.2 4 (by omega), f.2 13 (by omega), f.2 14 (by omega), f.1 55 (by omega) (by omega), f.1 59 (by omega) (by omega), f.1 53 (by omega) (by omega), f.1 60 (by omega) (by omega)]
  exact h
theorem em_fr {D D' : am_D} {E : mw_T} (h : em D E) (f : fm D D') : em D' E := by
  unfold em at h ⊢
  rw [f.2 7 (by omega), f.1 56 (by omega) (by omega), f.1 57 (by omega) (by omega), f.1 58 (by omega) (by omega)]
  exact h
theorem and1 (x : Int32) : x &&& 1 = 0 ∨ x &&& 1 = 1 := by
  obtain ⟨j, h1, h2⟩ := pk_andE x (m := 1) 1 (by decide +kernel)
  rw [h2]
  have : j = 0 ∨ j = 1 := by omega
  rcases this with rfl | rfl
  · exact Or.inl rfl
  · exact Or.inr nc1
theorem tw1 : ∀ a, a < 12 → ∀ b, b < 12 → mw_tw a b 1 = (if a < b then a + 1 else if b < a then a - 1 else a) := by decide +kernel
theorem tw3 : ∀ a, a < 12 → ∀ b, b < 12 → mw_tw (mw_tw (mw_tw a b 1) b 1) b 1 = mw_tw a b 3 := by decide +kernel
def fnM_isIn : Nat → am_Sp := fun _ => am_no
theorem mfM_isIn : ∀ a, am_mono (fnM_isIn a) := fun _ => am_no_mono
def spM_isIn : am_Sp := fun as D L K => match as with
  | [.int x, .int k] => ((x >>> (k &&& 31)) &&& 1 = 0 → K (some (.int 0)) D L) ∧ (¬ (x >>> (k &&& 31)) &&& 1 = 0 → K (some (.int 1)) D L)
  | _ => False
theorem moM_isIn : am_mono spM_isIn := by
  intro as D L K K' hK h
  unfold spM_isIn at h ⊢
  split at h
  · exact ⟨fun q => hK _ _ _ (h.1 q), fun q => hK _ _ _ (h.2 q)⟩
  · exact h
theorem wpM_isIn : ∀ (as : List Value) (D : am_D) (L : am_L) (K : am_K), spM_isIn as D L K → am_fit 2 as = true ∧ am_Wp false 0 cdM_isIn fnM_isIn K 0 (am_lo 2 as) [] D L := by
  intro as D L K h
  unfold spM_isIn at h
  split at h
  · rename_i x k
    refine ⟨rfl, am_Wp_bl mfM_isIn [] 20 _ _ _ _ _ ?_⟩
    (repeat ((conv => whnf); (first | refine zo0 ?_ | refine zo1 ?_ | refine br_z ?_ | refine br_o ?_ | refine br_zn ?_ | refine br_on ?_ | refine nz2 ?_ | refine nz6 ?_ | refine nz32 ?_ | refine And.intro (by assumption) ?_))); (conv => whnf)
    refine ⟨fun h1 => ?_, fun h1 => ?_⟩
    · (repeat ((conv => whnf); (first | refine zo0 ?_ | refine zo1 ?_ | refine br_z ?_ | refine br_o ?_ | refine br_zn ?_ | refine br_on ?_ | refine nz2 ?_ | refine nz6 ?_ | refine nz32 ?_ | refine And.intro (by assumption) ?_))); (conv => whnf)
      refine h.1 ?_
      rcases and1 (x >>> (k &&& 31)) with q | q
      · exact q
      · exact absurd q h1
    · (repeat ((conv => whnf); (first | refine zo0 ?_ | refine zo1 ?_ | refine br_z ?_ | refine br_o ?_ | refine br_zn ?_ | refine br_on ?_ | refine nz2 ?_ | refine nz6 ?_ | refine nz32 ?_ | refine And.intro (by assumption) ?_))); (conv => whnf)
      refine h.2 ?_
      rw [h1]
      decide
  · exact absurd h id
theorem clM_isIn (l : Launch) : ∀ (a : Nat) (ins : Instr) (b dd : Nat), csM_isIn[a]? = some (ins, b, dd) → am_Call l yM_isIn.cls 0 ins b dd (fnM_isIn a) := by
  intro a ins b dd h
  match a, h with
  | k + 0, h => simp [csM_isIn] at h
theorem okM_isIn (l : Launch) : am_Ok l yM_isIn prog_13_method_4_code 2 (some .boolean) 0 spM_isIn := am_ok_of (by decide +kernel) flM_ok kiM_ok klM_ok ckM_isIn (clM_isIn l) wpM_isIn
def fnM_towards : Nat → am_Sp := fun _ => am_no
theorem mfM_towards : ∀ a, am_mono (fnM_towards a) := fun _ => am_no_mono
def spM_towards : am_Sp := fun as D L K => match as with
  | [.int x, .int y] => ∃ a b : Nat, x = nI a ∧ y = nI b ∧ a ≤ 11 ∧ b ≤ 11 ∧ K (some (.int (nI (mw_tw a b 1)))) D L
  | _ => False
theorem moM_towards : am_mono spM_towards := by
  intro as D L K K' hK h
  unfold spM_towards at h ⊢
  split at h
  · obtain ⟨a, b, h1, h2, h3, h4, h5⟩ := h
    exact ⟨a, b, h1, h2, h3, h4, hK _ _ _ h5⟩
  · exact h
theorem wpM_towards : ∀ (as : List Value) (D : am_D) (L : am_L) (K : am_K), spM_towards as D L K → am_fit 2 as = true ∧ am_Wp false 0 cdM_towards fnM_towards K 0 (am_lo 2 as) [] D L := by
  intro as D L K h
  unfold spM_towards at h
  split at h
  · obtain ⟨a, b, rfl, rfl, ha, hb, hK⟩ := h
    rw [tw1 a (by omega) b (by omega)] at hK
    refine ⟨rfl, am_Wp_bl mfM_towards [] 20 _ _ _ _ _ ?_⟩
    (repeat ((conv => whnf); (first | refine zo0 ?_ | refine zo1 ?_ | refine br_z ?_ | refine br_o ?_ | refine br_zn ?_ | refine br_on ?_ | refine nz2 ?_ | refine nz6 ?_ | refine nz32 ?_ | refine And.intro (by assumption) ?_))); (conv => whnf)
    refine ⟨fun h1 => ?_, fun h1 => ?_⟩
    · rw [nI_leI (by omega) (by omega)] at h1
      rw [if_neg (by omega)] at hK
      (repeat ((conv => whnf); (first | refine zo0 ?_ | refine zo1 ?_ | refine br_z ?_ | refine br_o ?_ | refine br_zn ?_ | refine br_on ?_ | refine nz2 ?_ | refine nz6 ?_ | refine nz32 ?_ | refine And.intro (by assumption) ?_))); (conv => whnf)
      refine ⟨fun h2 => ?_, fun h2 => ?_⟩
      · rw [nI_leI (by omega) (by omega)] at h2
        rw [if_neg (by omega)] at hK
        (repeat ((conv => whnf); (first | refine zo0 ?_ | refine zo1 ?_ | refine br_z ?_ | refine br_o ?_ | refine br_zn ?_ | refine br_on ?_ | refine nz2 ?_ | refine nz6 ?_ | refine nz32 ?_ | refine And.intro (by assumption) ?_))); (conv => whnf)
        exact hK
      · rw [nI_leI (by omega) (by omega)] at h2
        rw [if_pos (by omega), ← nI_sub1 (by omega)] at hK
        (repeat ((conv => whnf); (first | refine zo0 ?_ | refine zo1 ?_ | refine br_z ?_ | refine br_o ?_ | refine br_zn ?_ | refine br_on ?_ | refine nz2 ?_ | refine nz6 ?_ | refine nz32 ?_ | refine And.intro (by assumption) ?_))); (conv => whnf)
        exact hK
    · rw [nI_leI (by omega) (by omega)] at h1
      rw [if_pos (by omega), ← nI_1] at hK
      (repeat ((conv => whnf); (first | refine zo0 ?_ | refine zo1 ?_ | refine br_z ?_ | refine br_o ?_ | refine br_zn ?_ | refine br_on ?_ | refine nz2 ?_ | refine nz6 ?_ | refine nz32 ?_ | refine And.intro (by assumption) ?_))); (conv => whnf)
      exact hK
  · exact absurd h id
theorem clM_towards (l : Launch) : ∀ (a : Nat) (ins : Instr) (b dd : Nat), csM_towards[a]? = some (ins, b, dd) → am_Call l yM_towards.cls 0 ins b dd (fnM_towards a) := by
  intro a ins b dd h
  match a, h with
  | k + 0, h => simp [csM_towards] at h
theorem okM_towards (l : Launch) : am_Ok l yM_towards prog_13_method_28_code 2 (some .int) 0 spM_towards := am_ok_of (by decide +kernel) flM_ok kiM_ok klM_ok ckM_towards (clM_towards l) wpM_towards
def fnM_less : Nat → am_Sp := fun _ => am_no
theorem mfM_less : ∀ a, am_mono (fnM_less a) := fun _ => am_no_mono
def spM_less : am_Sp := fun as D L K => match as with
  | [.int x, .int y] => ∃ a b : Nat, x = nI a ∧ y = nI b ∧ a < 1000 ∧ b < 1000 ∧ K (some (.int (nI (min a b)))) D L
  | _ => False
theorem moM_less : am_mono spM_less := by
  intro as D L K K' hK h
  unfold spM_less at h ⊢
  split at h
  · obtain ⟨a, b, h1, h2, h3, h4, h5⟩ := h
    exact ⟨a, b, h1, h2, h3, h4, hK _ _ _ h5⟩
  · exact h
theorem wpM_less : ∀ (as : List Value) (D : am_D) (L : am_L) (K : am_K), spM_less as D L K → am_fit 2 as = true ∧ am_Wp false 0 cdM_less fnM_less K 0 (am_lo 2 as) [] D L := by
  intro as D L K h
  unfold spM_less at h
  split at h
  · obtain ⟨a, b, rfl, rfl, ha, hb, hK⟩ := h
    refine ⟨rfl, am_Wp_bl mfM_less [] 20 _ _ _ _ _ ?_⟩
    (repeat ((conv => whnf); (first | refine zo0 ?_ | refine zo1 ?_ | refine br_z ?_ | refine br_o ?_ | refine br_zn ?_ | refine br_on ?_ | refine nz2 ?_ | refine nz6 ?_ | refine nz32 ?_ | refine And.intro (by assumption) ?_))); (conv => whnf)
    refine ⟨fun h1 => ?_, fun h1 => ?_⟩
    · rw [nI_leI (by omega) (by omega)] at h1
      rw [Nat.min_eq_right h1] at hK
      (repeat ((conv => whnf); (first | refine zo0 ?_ | refine zo1 ?_ | refine br_z ?_ | refine br_o ?_ | refine br_zn ?_ | refine br_on ?_ | refine nz2 ?_ | refine nz6 ?_ | refine nz32 ?_ | refine And.intro (by assumption) ?_))); (conv => whnf)
      exact hK
    · rw [nI_leI (by omega) (by omega)] at h1
      rw [Nat.min_eq_left (by omega)] at hK
      (repeat ((conv => whnf); (first | refine zo0 ?_ | refine zo1 ?_ | refine br_z ?_ | refine br_o ?_ | refine br_zn ?_ | refine br_on ?_ | refine nz2 ?_ | refine nz6 ?_ | refine nz32 ?_ | refine And.intro (by assumption) ?_))); (conv => whnf)
      exact hK
  · exact absurd h id
theorem clM_less (l : Launch) : ∀ (a : Nat) (ins : Instr) (b dd : Nat), csM_less[a]? = some (ins, b, dd) → am_Call l yM_less.cls 0 ins b dd (fnM_less a) := by
  intro a ins b dd h
  match a, h with
  | k + 0, h => simp [csM_less] at h
theorem okM_less (l : Launch) : am_Ok l yM_less prog_13_method_6_code 2 (some .int) 0 spM_less := am_ok_of (by decide +kernel) flM_ok kiM_ok klM_ok ckM_less (clM_less l) wpM_less
def fnM_wanting : Nat → am_Sp := fun _ => am_no
theorem mfM_wanting : ∀ a, am_mono (fnM_wanting a) := fun _ => am_no_mono
def spM_wanting : am_Sp := fun as D L K => match as with
  | [.ref 49, .int x] => ∃ d : Nat, x = nI d ∧ d < 12 ∧ K (some (.int (D 59 d - D 61 d))) D L
  | _ => False
theorem moM_wanting : am_mono spM_wanting := by
  intro as D L K K' hK h
  unfold spM_wanting at h ⊢
  split at h
  · obtain ⟨d, h1, h2, h3⟩ := h
    exact ⟨d, h1, h2, hK _ _ _ h3⟩
  · exact h
theorem wpM_wanting : ∀ (as : List Value) (D : am_D) (L : am_L) (K : am_K), spM_wanting as D L K → am_fit 2 as = true ∧ am_Wp false 0 cdM_wanting fnM_wanting K 0 (am_lo 2 as) [] D L := by
  intro as D L K h
  unfold spM_wanting at h
  split at h
  · obtain ⟨d, rfl, hd, hK⟩ := h
    have ec : (nI d).toNatClampNeg = d := nI_clamp (by omega)
    have hin : vp_in (nI d) 12 := vp_in_nI (by omega) (by decide)
    refine ⟨rfl, am_Wp_bl mfM_wanting [] 20 _ _ _ _ _ ?_⟩
    (repeat ((conv => whnf); (first | refine zo0 ?_ | refine zo1 ?_ | refine br_z ?_ | refine br_o ?_ | refine br_zn ?_ | refine br_on ?_ | refine nz2 ?_ | refine nz6 ?_ | refine nz32 ?_ | refine And.intro (by assumption) ?_))); (conv => whnf)
    rw [ec]
    exact hK
  · exact absurd h id
theorem clM_wanting (l : Launch) : ∀ (a : Nat) (ins : Instr) (b dd : Nat), csM_wanting[a]? = some (ins, b, dd) → am_Call l yM_wanting.cls 0 ins b dd (fnM_wanting a) := by
  intro a ins b dd h
  match a, h with
  | k + 0, h => simp [csM_wanting] at h
theorem okM_wanting (l : Launch) : am_Ok l yM_wanting prog_13_method_30_code 2 (some .int) 0 spM_wanting := am_ok_of (by decide +kernel) flM_ok kiM_ok klM_ok ckM_wanting (clM_wanting l) wpM_wanting
def fnM_goes : Nat → am_Sp := fun a => match a with
  | 0 => spM_towards
  | 1 => spM_isIn
  | _ => am_no
theorem mfM_goes : ∀ a, am_mono (fnM_goes a) := fun a => match a with
  | 0 => moM_towards
  | 1 => moM_isIn
  | _ + 2 => am_no_mono
def spM_goes : am_Sp := fun as D L K => match as with
  | [.ref 49, .int x] => ∃ (w : mw_T) (g : Int32) (to : Nat), x = nI to ∧ to ≤ 11 ∧ w 0 0 ≤ 11 ∧ w 0 0 ≠ to ∧ wm D w g ∧ ∀ D' r, fm D D' → wm D' (mw_go g w to) g → r = nI (mw_go g w to 0 7) → K (some (.int r)) D' L
  | _ => False
theorem moM_goes : am_mono spM_goes := by
  intro as D L K K' hK h
  unfold spM_goes at h ⊢
  split at h
  · obtain ⟨w, g, to, h1, h2, h3, h4, h5, h6⟩ := h
    exact ⟨w, g, to, h1, h2, h3, h4, h5, fun D' r q1 q2 q3 => hK _ _ _ (h6 D' r q1 q2 q3)⟩
  · exact h
theorem wpM_goes : ∀ (as : List Value) (D : am_D) (L : am_L) (K : am_K), spM_goes as D L K → am_fit 3 as = true ∧ am_Wp false 0 cdM_goes fnM_goes K 0 (am_lo 3 as) [] D L := by
  intro as D L K h
  unfold spM_goes at h
  split at h
  · obtain ⟨w, g, to, rfl, hto, hman, hne, ⟨aL, a16, a17, a18, a19, a20, a21, a22, a23, a24, a25, a26, a27⟩, hK⟩ := h
    have en : mw_tw (w 0 0) to 1 = mw_nx w to := by
      rw [tw1 _ (by omega) _ (by omega), mw_nx]
      by_cases q : w 0 0 < to
      · rw [if_pos q, if_pos q]
      · rw [if_neg q, if_neg q, if_pos (by omega)]
    refine ⟨rfl, am_Wp_bl mfM_goes [] 60 _ _ _ _ _ ?_⟩
    (repeat ((conv => whnf); (first | refine zo0 ?_ | refine zo1 ?_ | refine br_z ?_ | refine br_o ?_ | refine br_zn ?_ | refine br_on ?_ | refine nz2 ?_ | refine nz6 ?_ | refine nz32 ?_ | refine And.intro (by assumption) ?_))); (conv => whnf)
    refine ⟨w 0 0, to, a16, rfl, hman, hto, ?_⟩
    rw [en]
    (repeat ((conv => whnf); (first | refine zo0 ?_ | refine zo1 ?_ | refine br_z ?_ | refine br_o ?_ | refine br_zn ?_ | refine br_on ?_ | refine nz2 ?_ | refine nz6 ?_ | refine nz32 ?_ | refine And.intro (by assumption) ?_))); (conv => whnf)
    refine ⟨fun h2 => ?_, fun h2 => ?_⟩
    · rw [a23] at h2
      (repeat ((conv => whnf); (first | refine zo0 ?_ | refine zo1 ?_ | refine br_z ?_ | refine br_o ?_ | refine br_zn ?_ | refine br_on ?_ | refine nz2 ?_ | refine nz6 ?_ | refine nz32 ?_ | refine And.intro (by assumption) ?_))); (conv => whnf)
      refine hK _ _ (by repeat (first | exact fm_rf | refine fm_up (by decide) (by decide) ?_ | refine fm_upA (by decide) (by decide) ?_)) ?_ (by simp [mw_go, mw_dog_f h2, up2, nc1])
      refine ⟨fun d hd => ?_, ?_⟩
      · obtain ⟨b1, b2, b3⟩ := aL d hd
        refine ⟨?_, ?_, ?_⟩ <;> simp [am_up, upd, up2, mw_go, mw_dog_f h2, nI_1, b1, b2, b3, nI_0, nc1, nc2, nc3, nc4]
      · refine ⟨?_, ?_, ?_, ?_, ?_, ?_, ?_, ?_, ?_, ?_, ?_, ?_⟩ <;> simp [am_up, upd, up2, mw_go, mw_dog_f h2, nI_1, a16, a17, a18, a19, a20, a21, a22, a23, a24, a25, a26, a27, nI_0, nc1, nc2, nc3, nc4]
    · rw [a23] at h2
      (repeat ((conv => whnf); (first | refine zo0 ?_ | refine zo1 ?_ | refine br_z ?_ | refine br_o ?_ | refine br_zn ?_ | refine br_on ?_ | refine nz2 ?_ | refine nz6 ?_ | refine nz32 ?_ | refine And.intro (by assumption) ?_))); (conv => whnf)
      refine hK _ _ (by repeat (first | exact fm_rf | refine fm_up (by decide) (by decide) ?_ | refine fm_upA (by decide) (by decide) ?_)) ?_ (by simp [mw_go, mw_dog_t h2, up2, nc4])
      refine ⟨fun d hd => ?_, ?_⟩
      · obtain ⟨b1, b2, b3⟩ := aL d hd
        refine ⟨?_, ?_, ?_⟩ <;> simp [am_up, upd, up2, mw_go, mw_dog_t h2, b1, b2, b3, nI_0, nc1, nc2, nc3, nc4]
      · refine ⟨?_, ?_, ?_, ?_, ?_, ?_, ?_, ?_, ?_, ?_, ?_, ?_⟩ <;> simp [am_up, upd, up2, mw_go, mw_dog_t h2, a16, a17, a18, a19, a20, a21, a22, a23, a24, a25, a26, a27, nI_0, nc1, nc2, nc3, nc4]
  · exact absurd h id
theorem clM_goes (l : Launch) : ∀ (a : Nat) (ins : Instr) (b dd : Nat), csM_goes[a]? = some (ins, b, dd) → am_Call l yM_goes.cls 1 ins b dd (fnM_goes a) := by
  intro a ins b dd h
  match a, h with
  | 0, h => cases h; exact am_callS (okM_towards l) wcM_towards (am_m5 (i := 139) rfl rfl) wtM_towards inM (by decide +kernel) (by decide) (by decide)
  | 1, h => cases h; exact am_callS (okM_isIn l) wcM_isIn (am_m5 (i := 136) rfl rfl) wtM_isIn inM (by decide +kernel) (by decide) (by decide)
  | k + 2, h => simp [csM_goes] at h
theorem okM_goes (l : Launch) : am_Ok l yM_goes prog_13_method_33_code 3 (some .int) 1 spM_goes := am_ok_of (by decide +kernel) flM_ok kiM_ok klM_ok ckM_goes (clM_goes l) wpM_goes
def fnM_fills : Nat → am_Sp := fun a => match a with
  | 0 => spM_less
  | _ => am_no
theorem mfM_fills : ∀ a, am_mono (fnM_fills a) := fun a => match a with
  | 0 => moM_less
  | _ + 1 => am_no_mono
def spM_fills : am_Sp := fun as D L K => match as with
  | [.ref 49] => ∃ (w : mw_T) (g : Int32) (room : Nat), D 49 14 = nI room ∧ room ≤ 8 ∧ w 0 2 ≤ 60 ∧ w 0 3 = 0 ∧ wm D w g ∧ ∀ D' r, fm D D' → wm D' (mw_fill room w) g → r = nI (mw_fill room w 0 7) → K (some (.int r)) D' L
  | _ => False
theorem moM_fills : am_mono spM_fills := by
  intro as D L K K' hK h
  unfold spM_fills at h ⊢
  split at h
  · obtain ⟨w, g, room, h1, h2, h3, h4, h5, h6⟩ := h
    exact ⟨w, g, room, h1, h2, h3, h4, h5, fun D' r q1 q2 q3 => hK _ _ _ (h6 D' r q1 q2 q3)⟩
  · exact h
theorem wpM_fills : ∀ (as : List Value) (D : am_D) (L : am_L) (K : am_K), spM_fills as D L K → am_fit 2 as = true ∧ am_Wp false 0 cdM_fills fnM_fills K 0 (am_lo 2 as) [] D L := by
  intro as D L K h
  unfold spM_fills at h
  split at h
  · obtain ⟨w, g, room, hroom, hr, hst, hz, ⟨aL, a16, a17, a18, a19, a20, a21, a22, a23, a24, a25, a26, a27⟩, hK⟩ := h
    have es : nI (w 0 2) - nI (min room (w 0 2)) = nI (w 0 2 - min room (w 0 2)) := pk_sub (Nat.min_le_right _ _)
    have ez : D 49 18 = 0 := by rw [a18, hz, nI_0]
    have er : nI room - 0 = nI room := by rw [← nI_0, pk_sub (by omega), Nat.sub_zero]
    have ea : (0 : Int32) + nI (min room (w 0 2)) = nI (min room (w 0 2)) := by rw [← nI_0, nI_add, Nat.zero_add]
    refine ⟨rfl, am_Wp_bl mfM_fills [] 60 _ _ _ _ _ ?_⟩
    (repeat ((conv => whnf); (first | refine zo0 ?_ | refine zo1 ?_ | refine br_z ?_ | refine br_o ?_ | refine br_zn ?_ | refine br_on ?_ | refine nz2 ?_ | refine nz6 ?_ | refine nz32 ?_ | refine And.intro (by assumption) ?_))); (conv => whnf)
    refine ⟨fun h1 => ?_, fun h1 => ?_⟩
    · have h2 : ¬ w 0 2 = 0 := by
        intro q
        apply h1
        simp [am_up, upd, a20, q, nI_0]
      (repeat ((conv => whnf); (first | refine zo0 ?_ | refine zo1 ?_ | refine br_z ?_ | refine br_o ?_ | refine br_zn ?_ | refine br_on ?_ | refine nz2 ?_ | refine nz6 ?_ | refine nz32 ?_ | refine And.intro (by assumption) ?_))); (conv => whnf)
      refine ⟨room, w 0 2, by simp [am_up, upd, hroom, ez, er], by simp [am_up, upd, a20], by omega, by omega, ?_⟩
      (repeat ((conv => whnf); (first | refine zo0 ?_ | refine zo1 ?_ | refine br_z ?_ | refine br_o ?_ | refine br_zn ?_ | refine br_on ?_ | refine nz2 ?_ | refine nz6 ?_ | refine nz32 ?_ | refine And.intro (by assumption) ?_))); (conv => whnf)
      refine hK _ _ (by repeat (first | exact fm_rf | refine fm_up (by decide) (by decide) ?_ | refine fm_upA (by decide) (by decide) ?_)) ?_ (by simp [up2, mw_fill, nc2])
      refine ⟨fun d hd => ?_, ?_⟩
      · obtain ⟨b1, b2, b3⟩ := aL d hd
        refine ⟨?_, ?_, ?_⟩ <;> simp [am_up, upd, up2, mw_fill, h2, es, ez, ea, nI_1, nI_add, b1, b2, b3, nI_0, nc1, nc2, nc3, nc4]
      · refine ⟨?_, ?_, ?_, ?_, ?_, ?_, ?_, ?_, ?_, ?_, ?_, ?_⟩ <;> simp [am_up, upd, up2, mw_fill, h2, es, ez, ea, nI_1, nI_add, a16, a17, a18, a19, a20, a21, a22, a23, a24, a25, a26, a27, nI_0, nc1, nc2, nc3, nc4]
    · have h2 : w 0 2 = 0 := by
        simp [am_up, upd, a20] at h1
        rcases Nat.eq_zero_or_pos (w 0 2) with q | q
        · exact q
        · exact absurd h1 (nI_ne0 q (by omega))
      have e6 : (if w 0 2 = 0 then (1 : Nat) else 0) = 1 := by rw [if_pos h2]
      (repeat ((conv => whnf); (first | refine zo0 ?_ | refine zo1 ?_ | refine br_z ?_ | refine br_o ?_ | refine br_zn ?_ | refine br_on ?_ | refine nz2 ?_ | refine nz6 ?_ | refine nz32 ?_ | refine And.intro (by assumption) ?_))); (conv => whnf)
      refine ⟨room, w 0 2, by simp [am_up, upd, hroom, ez, er], by simp [am_up, upd, a20], by omega, by omega, ?_⟩
      (repeat ((conv => whnf); (first | refine zo0 ?_ | refine zo1 ?_ | refine br_z ?_ | refine br_o ?_ | refine br_zn ?_ | refine br_on ?_ | refine nz2 ?_ | refine nz6 ?_ | refine nz32 ?_ | refine And.intro (by assumption) ?_))); (conv => whnf)
      refine hK _ _ (by repeat (first | exact fm_rf | refine fm_up (by decide) (by decide) ?_ | refine fm_upA (by decide) (by decide) ?_)) ?_ (by simp [up2, mw_fill, nc2])
      refine ⟨fun d hd => ?_, ?_⟩
      · obtain ⟨b1, b2, b3⟩ := aL d hd
        refine ⟨?_, ?_, ?_⟩ <;> simp [am_up, upd, up2, mw_fill, es, ez, ea, e6, nI_1, nI_add, b1, b2, b3, nI_0, nc1, nc2, nc3, nc4]
      · refine ⟨?_, ?_, ?_, ?_, ?_, ?_, ?_, ?_, ?_, ?_, ?_, ?_⟩ <;> simp [am_up, upd, up2, mw_fill, es, ez, ea, e6, nI_1, nI_add, a16, a17, a18, a19, a20, a21, a22, a23, a24, a25, a26, a27, nI_0, nc1, nc2, nc3, nc4]
  · exact absurd h id
theorem clM_fills (l : Launch) : ∀ (a : Nat) (ins : Instr) (b dd : Nat), csM_fills[a]? = some (ins, b, dd) → am_Call l yM_fills.cls 1 ins b dd (fnM_fills a) := by
  intro a ins b dd h
  match a, h with
  | 0, h => cases h; exact am_callS (okM_less l) wcM_less (am_m5 (i := 158) rfl rfl) wtM_less inM (by decide +kernel) (by decide) (by decide)
  | k + 1, h => simp [csM_fills] at h
theorem okM_fills (l : Launch) : am_Ok l yM_fills prog_13_method_31_code 2 (some .int) 1 spM_fills := am_ok_of (by decide +kernel) flM_ok kiM_ok klM_ok ckM_fills (clM_fills l) wpM_fills
def fnM_serves : Nat → am_Sp := fun a => match a with
  | 0 => spM_isIn
  | 1 => spM_wanting
  | 2 => spM_less
  | _ => am_no
theorem mfM_serves : ∀ a, am_mono (fnM_serves a) := fun a => match a with
  | 0 => moM_isIn
  | 1 => moM_wanting
  | 2 => moM_less
  | _ + 3 => am_no_mono
def spM_serves : am_Sp := fun as D L K => match as with
  | [.ref 49, .int x] => ∃ (P w : mw_T) (g : Int32) (d t : Nat), x = nI d ∧ d ≤ 11 ∧ mw_pok P ∧ mw_ok P t w ∧ D 49 14 = nI (P 0 2) ∧ D 59 d = nI (P 1 d) ∧ wm D w g ∧ ∀ D' r, fm D D' → wm D' (mw_serve P g w d) g → r = nI (mw_serve P g w d 0 7) → K (some (.int r)) D' L
  | _ => False
theorem moM_serves : am_mono spM_serves := by
  intro as D L K K' hK h
  unfold spM_serves at h ⊢
  split at h
  · obtain ⟨P, w, g, d, t, h1, h2, h3, h4, h5, h6, h7, h8⟩ := h
    exact ⟨P, w, g, d, t, h1, h2, h3, h4, h5, h6, h7, fun D' r q1 q2 q3 => hK _ _ _ (h8 D' r q1 q2 q3)⟩
  · exact h
theorem wpM_serves : ∀ (as : List Value) (D : am_D) (L : am_L) (K : am_K), spM_serves as D L K → am_fit 4 as = true ∧ am_Wp false 0 cdM_serves fnM_serves K 0 (am_lo 4 as) [] D L := by
  intro as D L K h
  unfold spM_serves at h
  split at h
  · obtain ⟨P, w, g, dd, t, rfl, hdd, ⟨q1, q2, q3, q4, q5, q6, q7⟩, ⟨m1, m2, m3, m4, m5, m6, m7, m8, m9⟩, hroom, x4, ⟨aL, a16, a17, a18, a19, a20, a21, a22, a23, a24, a25, a26, a27⟩, hK⟩ := h
    have hin : vp_in (nI dd) 12 := vp_in_nI (by omega) (by decide)
    have ec : (nI dd).toNatClampNeg = dd := nI_clamp (by omega)
    have m9d := m9 dd (by omega)
    have q6d := q6 dd (by omega)
    have x1 := (aL dd (by omega)).1
    have x2 := (aL dd (by omega)).2.1
    have x3 := (aL dd (by omega)).2.2
    have hl : mw_lay P w dd ≤ w 0 3 := Nat.min_le_right _ _
    have hl2 : mw_lay P w dd ≤ P 1 dd - w 1 dd := Nat.min_le_left _ _
    have hf : mw_lift P w dd ≤ w 3 dd := Nat.min_le_left _ _
    have s1 : nI (P 1 dd) - nI (w 1 dd) = nI (P 1 dd - w 1 dd) := pk_sub (by omega)
    have s3 : nI (w 0 3) - nI (mw_lay P w dd) = nI (w 0 3 - mw_lay P w dd) := pk_sub (by omega)
    have s4 : nI (P 0 2) - nI (w 0 3 - mw_lay P w dd) = nI (P 0 2 - (w 0 3 - mw_lay P w dd)) := pk_sub (by omega)
    have s5 : nI (P 0 2 - (w 0 3 - mw_lay P w dd)) - nI (w 0 4) = nI (P 0 2 - (w 0 3 - mw_lay P w dd) - w 0 4) := pk_sub (by omega)
    have s7 : nI (w 3 dd) - nI (mw_lift P w dd) = nI (w 3 dd - mw_lift P w dd) := pk_sub hf
    refine ⟨rfl, am_Wp_bl mfM_serves [] 120 _ _ _ _ _ ?_⟩
    (repeat ((conv => whnf); (first | refine zo0 ?_ | refine zo1 ?_ | refine br_z ?_ | refine br_o ?_ | refine br_zn ?_ | refine br_on ?_ | refine nz2 ?_ | refine nz6 ?_ | refine nz32 ?_ | refine And.intro (by assumption) ?_))); (conv => whnf)
    refine ⟨fun h3 => ?_, fun h3 => ?_⟩
    · rw [a23] at h3
      (repeat ((conv => whnf); (first | refine zo0 ?_ | refine zo1 ?_ | refine br_z ?_ | refine br_o ?_ | refine br_zn ?_ | refine br_on ?_ | refine nz2 ?_ | refine nz6 ?_ | refine nz32 ?_ | refine And.intro (by assumption) ?_))); (conv => whnf)
      refine ⟨dd, rfl, by omega, ?_⟩
      rw [x4, x1, s1]
      (repeat ((conv => whnf); (first | refine zo0 ?_ | refine zo1 ?_ | refine br_z ?_ | refine br_o ?_ | refine br_zn ?_ | refine br_on ?_ | refine nz2 ?_ | refine nz6 ?_ | refine nz32 ?_ | refine And.intro (by assumption) ?_))); (conv => whnf)
      refine ⟨P 1 dd - w 1 dd, w 0 3, rfl, a18, by omega, by omega, ?_⟩
      rw [show min (P 1 dd - w 1 dd) (w 0 3) = mw_lay P w dd from rfl]
      (repeat ((conv => whnf); (first | refine zo0 ?_ | refine zo1 ?_ | refine br_z ?_ | refine br_o ?_ | refine br_zn ?_ | refine br_on ?_ | refine nz2 ?_ | refine nz6 ?_ | refine nz32 ?_ | refine And.intro (by assumption) ?_))); (conv => whnf)
      refine ⟨w 3 dd, P 0 2 - (w 0 3 - mw_lay P w dd) - w 0 4, by simp [am_up, upd, ec, x3], by simp [am_up, upd, hroom, a18, a19, s3, s4, s5], by omega, by omega, ?_⟩
      rw [show min (w 3 dd) (P 0 2 - (w 0 3 - mw_lay P w dd) - w 0 4) = mw_lift P w dd from rfl]
      (repeat ((conv => whnf); (first | refine zo0 ?_ | refine zo1 ?_ | refine br_z ?_ | refine br_o ?_ | refine br_zn ?_ | refine br_on ?_ | refine nz2 ?_ | refine nz6 ?_ | refine nz32 ?_ | refine And.intro (by assumption) ?_))); (conv => whnf)
      refine ⟨dd, rfl, by omega, ?_⟩
      (repeat ((conv => whnf); (first | refine zo0 ?_ | refine zo1 ?_ | refine br_z ?_ | refine br_o ?_ | refine br_zn ?_ | refine br_on ?_ | refine nz2 ?_ | refine nz6 ?_ | refine nz32 ?_ | refine And.intro (by assumption) ?_))); (conv => whnf)
      refine ⟨fun h4 => ?_, fun h4 => ?_⟩
      · simp [am_up, upd, ec, x1, x4, nI_add] at h4
        have h5 : ¬ P 1 dd ≤ w 1 dd + mw_lay P w dd := by
          intro q
          apply h4
          rw [show P 1 dd = w 1 dd + mw_lay P w dd by omega]
          exact Int32.sub_self _
        (repeat ((conv => whnf); (first | refine zo0 ?_ | refine zo1 ?_ | refine br_z ?_ | refine br_o ?_ | refine br_zn ?_ | refine br_on ?_ | refine nz2 ?_ | refine nz6 ?_ | refine nz32 ?_ | refine And.intro (by assumption) ?_))); (conv => whnf)
        refine hK _ _ (by repeat (first | exact fm_rf | refine fm_up (by decide) (by decide) ?_ | refine fm_upA (by decide) (by decide) ?_)) ?_ (by simp [up2, mw_serve, mw_dog_f h3, nc3])
        refine ⟨fun d hd => ?_, ?_⟩
        · obtain ⟨b1, b2, b3⟩ := aL d hd
          by_cases ed : d = dd
          · subst ed
            refine ⟨?_, ?_, ?_⟩ <;> simp [am_up, upd, up2, ec, x1, x2, x3, hroom, s3, s7, nI_add, mw_serve, mw_dog_f h3, h5, a16, a17, a18, a19, a20, a21, a22, a23, a24, a25, a26, a27, b1, b2, b3, nI_0, nc1, nc2, nc3, nc4]
          · refine ⟨?_, ?_, ?_⟩ <;> simp [am_up, upd, up2, ec, x1, x2, x3, hroom, s3, s7, nI_add, mw_serve, mw_dog_f h3, h5, ed, b1, b2, b3, nI_0, nc1, nc2, nc3, nc4]
        · refine ⟨?_, ?_, ?_, ?_, ?_, ?_, ?_, ?_, ?_, ?_, ?_, ?_⟩ <;> simp [am_up, upd, up2, ec, x1, x2, x3, hroom, s3, s7, nI_add, mw_serve, mw_dog_f h3, h5, a16, a17, a18, a19, a20, a21, a22, a23, a24, a25, a26, a27, nI_0, nc1, nc2, nc3, nc4]
      · simp [am_up, upd, ec, x1, x4, nI_add] at h4
        have h5 : P 1 dd ≤ w 1 dd + mw_lay P w dd := by
          rw [pk_sub (by omega), ← nI_0, nI_eq (by omega) (by omega)] at h4
          omega
        (repeat ((conv => whnf); (first | refine zo0 ?_ | refine zo1 ?_ | refine br_z ?_ | refine br_o ?_ | refine br_zn ?_ | refine br_on ?_ | refine nz2 ?_ | refine nz6 ?_ | refine nz32 ?_ | refine And.intro (by assumption) ?_))); (conv => whnf)
        refine hK _ _ (by repeat (first | exact fm_rf | refine fm_up (by decide) (by decide) ?_ | refine fm_upA (by decide) (by decide) ?_)) ?_ (by simp [up2, mw_serve, mw_dog_f h3, nc3])
        refine ⟨fun d hd => ?_, ?_⟩
        · obtain ⟨b1, b2, b3⟩ := aL d hd
          by_cases ed : d = dd
          · subst ed
            refine ⟨?_, ?_, ?_⟩ <;> simp [am_up, upd, up2, ec, x1, x2, x3, hroom, s3, s7, nI_add, mw_serve, mw_dog_f h3, h5, nI_1, a16, a17, a18, a19, a20, a21, a22, a23, a24, a25, a26, a27, b1, b2, b3, nI_0, nc1, nc2, nc3, nc4]
          · refine ⟨?_, ?_, ?_⟩ <;> simp [am_up, upd, up2, ec, x1, x2, x3, hroom, s3, s7, nI_add, mw_serve, mw_dog_f h3, h5, nI_1, ed, b1, b2, b3, nI_0, nc1, nc2, nc3, nc4]
        · refine ⟨?_, ?_, ?_, ?_, ?_, ?_, ?_, ?_, ?_, ?_, ?_, ?_⟩ <;> simp [am_up, upd, up2, ec, x1, x2, x3, hroom, s3, s7, nI_add, mw_serve, mw_dog_f h3, h5, nI_1, a16, a17, a18, a19, a20, a21, a22, a23, a24, a25, a26, a27, nI_0, nc1, nc2, nc3, nc4]
    · rw [a23] at h3
      (repeat ((conv => whnf); (first | refine zo0 ?_ | refine zo1 ?_ | refine br_z ?_ | refine br_o ?_ | refine br_zn ?_ | refine br_on ?_ | refine nz2 ?_ | refine nz6 ?_ | refine nz32 ?_ | refine And.intro (by assumption) ?_))); (conv => whnf)
      refine hK _ _ (by repeat (first | exact fm_rf | refine fm_up (by decide) (by decide) ?_ | refine fm_upA (by decide) (by decide) ?_)) ?_ (by simp [up2, mw_serve, mw_dog_t h3, nc4])
      refine ⟨fun d hd => ?_, ?_⟩
      · obtain ⟨b1, b2, b3⟩ := aL d hd
        refine ⟨?_, ?_, ?_⟩ <;> simp [am_up, upd, up2, mw_serve, mw_dog_t h3, b1, b2, b3, nI_0, nc1, nc2, nc3, nc4]
      · refine ⟨?_, ?_, ?_, ?_, ?_, ?_, ?_, ?_, ?_, ?_, ?_, ?_⟩ <;> simp [am_up, upd, up2, mw_serve, mw_dog_t h3, a16, a17, a18, a19, a20, a21, a22, a23, a24, a25, a26, a27, nI_0, nc1, nc2, nc3, nc4]
  · exact absurd h id
theorem clM_serves (l : Launch) : ∀ (a : Nat) (ins : Instr) (b dd : Nat), csM_serves[a]? = some (ins, b, dd) → am_Call l yM_serves.cls 1 ins b dd (fnM_serves a) := by
  intro a ins b dd h
  match a, h with
  | 0, h => cases h; exact am_callS (okM_isIn l) wcM_isIn (am_m5 (i := 136) rfl rfl) wtM_isIn inM (by decide +kernel) (by decide) (by decide)
  | 1, h => cases h; exact am_callV (T := F_11) (N := 52) (okM_wanting l) wcM_wanting (am_m5 (i := 146) rfl rfl) wiM_wanting wsM_wanting inM rfl (by decide) (by decide +kernel) (by decide) (by decide)
  | 2, h => cases h; exact am_callS (okM_less l) wcM_less (am_m5 (i := 158) rfl rfl) wtM_less inM (by decide +kernel) (by decide) (by decide)
  | k + 3, h => simp [csM_serves] at h
theorem okM_serves (l : Launch) : am_Ok l yM_serves prog_13_method_32_code 4 (some .int) 1 spM_serves := am_ok_of (by decide +kernel) flM_ok kiM_ok klM_ok ckM_serves (clM_serves l) wpM_serves
