/-! the class's own cells and the numbers -/
def fr (lo hi : Nat) (D D' : am_D) : Prop := ∀ k, k < lo ∨ hi < k → D' k = D k
theorem fr_rf {lo hi : Nat} {D : am_D} : fr lo hi D D := fun _ _ => rfl
theorem fr_up {lo hi : Nat} {D D' : am_D} {k j : Nat} {v : Int32} (h1 : lo ≤ k) (h2 : k ≤ hi) (h : fr lo hi D D') : fr lo hi D (am_up D' k j v) := fun q hq => by rw [am_up_ne (by omega)]; exact h q hq
theorem fr_upA {lo hi : Nat} {D D' : am_D} {k : Nat} {f : Nat → Int32} (h1 : lo ≤ k) (h2 : k ≤ hi) (h : fr lo hi D D') : fr lo hi D (am_upA D' k f) := fun q hq => by
  have : ¬ q = k := by omega
  simp only [am_upA, if_neg this]
  exact h q hq
theorem fr_tr {lo hi : Nat} {D D' D'' : am_D} (h1 : fr lo hi D D') (h2 : fr lo hi D' D'') : fr lo hi D D'' := fun q hq => (h2 q hq).trans (h1 q hq)
theorem fr_wk {lo hi lo' hi' : Nat} {D D' : am_D} (h1 : lo' ≤ lo) (h2 : hi ≤ hi') (h : fr lo hi D D') : fr lo' hi' D D' := fun q hq => h q (by omega)
theorem zo0 {A : Prop} (h : A) : ((0 : Int32) = 0 ∨ (0 : Int32) = 1) ∧ A := ⟨Or.inl rfl, h⟩
theorem zo1 {A : Prop} (h : A) : ((1 : Int32) = 0 ∨ (1 : Int32) = 1) ∧ A := ⟨Or.inr rfl, h⟩
theorem br_z {A B : Prop} (h : A) : ((0 : Int32) = 0 → A) ∧ (¬ (0 : Int32) = 0 → B) := ⟨fun _ => h, fun q => absurd rfl q⟩
theorem br_o {A B : Prop} (h : B) : ((1 : Int32) = 0 → A) ∧ (¬ (1 : Int32) = 0 → B) := ⟨fun q => absurd q (by decide), fun _ => h⟩
theorem br_zn {A B : Prop} (h : B) : (¬ (0 : Int32) = 0 → A) ∧ ((0 : Int32) = 0 → B) := ⟨fun q => absurd rfl q, fun _ => h⟩
theorem br_on {A B : Prop} (h : A) : (¬ (1 : Int32) = 0 → A) ∧ ((1 : Int32) = 0 → B) := ⟨fun _ => h, fun q => absurd q (by decide)⟩
/-- the walk -/
def wx (D : am_D) (w : mw_T) (g : Int32) : Prop := (∀ d, d < 12 → D 23 d = nI (w 1 d) ∧ D 24 d = nI (w 2 d) ∧ D 25 d = nI (w 3 d)) ∧ D 22 4 = nI (w 0 0) ∧ D 22 5 = nI (w 0 1) ∧ D 22 6 = nI (w 0 2) ∧ D 22 7 = nI (w 0 3) ∧ D 22 8 = nI (w 0 4) ∧ D 22 9 = nI (w 0 5) ∧ D 22 10 = nI (w 0 6) ∧ D 22 11 = g ∧ D 22 12 = nI (w 0 7) ∧ D 22 13 = nI (w 0 8) ∧ D 22 14 = nI (w 0 9) ∧ D 22 15 = nI (w 0 10) ∧ D 22 16 = nI (w 0 11)
/-- a plan at the cell kp -/
def px (D : am_D) (kp : Nat) (P : mw_T) : Prop := D kp 3 = nI (P 0 0) ∧ D kp 4 = nI (P 0 1) ∧ D kp 5 = nI (P 0 2) ∧ D kp 6 = nI (P 0 3) ∧ (∀ d, d < 12 → D (kp + 1) d = nI (P 1 d) ∧ D (kp + 2) d = nI (P 2 d)) ∧ ∀ i, i < 24 → D (kp + 3) i = nI (P 3 i)
/-- which events are -/
def prx (a : Int32) (pr : Nat → Bool) : Prop := ∀ i, i < 8 → pr i = decide ((a >>> (nI i &&& 31)) &&& 1 = 0)
def ex (D : am_D) (E : mw_T) : Prop := D 7 3 = nI (E 0 0) ∧ ∀ i, i < E 0 0 → D 8 i = nI (E 1 i) ∧ D 9 i = nI (E 2 i) ∧ D 10 i = nI (E 3 i)
theorem nc1 : nI 1 = 1 := by decide +kernel
theorem nc2 : nI 2 = 2 := by decide +kernel
theorem nc3 : nI 3 = 3 := by decide +kernel
theorem nc4 : nI 4 = 4 := by decide +kernel
theorem nI_sub1 {n : Nat} (h : 0 < n) : nI n - 1 = nI (n - 1) := by
  rw [show n = (n - 1) + 1 by omega, nI_pred, Nat.add_sub_cancel]
theorem mw_dog_f {g : Int32} {d : Nat} (h : (g >>> (nI d &&& 31)) &&& 1 = 0) : mw_dog g d = false := by simp [mw_dog, h]
theorem mw_dog_t {g : Int32} {d : Nat} (h : ¬ (g >>> (nI d &&& 31)) &&& 1 = 0) : mw_dog g d = true := by simp [mw_dog, h]
def fnX_isDoor : Nat → am_Sp := fun _ => am_no
theorem mfX_isDoor : ∀ a, am_mono (fnX_isDoor a) := fun _ => am_no_mono
def spX_isDoor : am_Sp := am_ini cdX_isDoor fnX_isDoor 12 1
theorem moX_isDoor : am_mono spX_isDoor := am_ini_mono mfX_isDoor
theorem wpX_isDoor : ∀ (as : List Value) (D : am_D) (L : am_L) (K : am_K), spX_isDoor as D L K → am_fit 1 as = true ∧ am_Wp false 0 cdX_isDoor fnX_isDoor K 0 (am_lo 1 as) [] D L := am_ini_Wp mfX_isDoor
theorem clX_isDoor (l : Launch) : ∀ (a : Nat) (ins : Instr) (b dd : Nat), csX_isDoor[a]? = some (ins, b, dd) → am_Call l yX_isDoor.cls 0 ins b dd (fnX_isDoor a) := by
  intro a ins b dd h
  match a, h with
  | k + 0, h => simp [csX_isDoor] at h
theorem okX_isDoor (l : Launch) : am_Ok l yX_isDoor prog_1_method_41_code 1 (some .boolean) 0 spX_isDoor := am_ok_of (by decide +kernel) flX_ok kiX_ok klX_ok ckX_isDoor (clX_isDoor l) wpX_isDoor
def fnX_isMinute : Nat → am_Sp := fun _ => am_no
theorem mfX_isMinute : ∀ a, am_mono (fnX_isMinute a) := fun _ => am_no_mono
def spX_isMinute : am_Sp := am_ini cdX_isMinute fnX_isMinute 12 1
theorem moX_isMinute : am_mono spX_isMinute := am_ini_mono mfX_isMinute
theorem wpX_isMinute : ∀ (as : List Value) (D : am_D) (L : am_L) (K : am_K), spX_isMinute as D L K → am_fit 1 as = true ∧ am_Wp false 0 cdX_isMinute fnX_isMinute K 0 (am_lo 1 as) [] D L := am_ini_Wp mfX_isMinute
theorem clX_isMinute (l : Launch) : ∀ (a : Nat) (ins : Instr) (b dd : Nat), csX_isMinute[a]? = some (ins, b, dd) → am_Call l yX_isMinute.cls 0 ins b dd (fnX_isMinute a) := by
  intro a ins b dd h
  match a, h with
  | k + 0, h => simp [csX_isMinute] at h
theorem okX_isMinute (l : Launch) : am_Ok l yX_isMinute prog_1_method_42_code 1 (some .boolean) 0 spX_isMinute := am_ok_of (by decide +kernel) flX_ok kiX_ok klX_ok ckX_isMinute (clX_isMinute l) wpX_isMinute
def fnW_hasDog : Nat → am_Sp := fun _ => am_no
theorem mfW_hasDog : ∀ a, am_mono (fnW_hasDog a) := fun _ => am_no_mono
def spW_hasDog : am_Sp := am_ini cdW_hasDog fnW_hasDog 14 2
theorem moW_hasDog : am_mono spW_hasDog := am_ini_mono mfW_hasDog
theorem wpW_hasDog : ∀ (as : List Value) (D : am_D) (L : am_L) (K : am_K), spW_hasDog as D L K → am_fit 2 as = true ∧ am_Wp false 0 cdW_hasDog fnW_hasDog K 0 (am_lo 2 as) [] D L := am_ini_Wp mfW_hasDog
theorem clW_hasDog (l : Launch) : ∀ (a : Nat) (ins : Instr) (b dd : Nat), csW_hasDog[a]? = some (ins, b, dd) → am_Call l yW_hasDog.cls 0 ins b dd (fnW_hasDog a) := by
  intro a ins b dd h
  match a, h with
  | k + 0, h => simp [csW_hasDog] at h
theorem okW_hasDog (l : Launch) : am_Ok l yW_hasDog prog_11_method_9_code 2 (some .boolean) 0 spW_hasDog := am_ok_of (by decide +kernel) flW_ok kiW_ok klW_ok ckW_hasDog (clW_hasDog l) wpW_hasDog
def fnW_goTowards : Nat → am_Sp := fun a => match a with
  | 0 => spW_hasDog
  | _ => am_no
theorem mfW_goTowards : ∀ a, am_mono (fnW_goTowards a) := fun a => match a with
  | 0 => moW_hasDog
  | _ + 1 => am_no_mono
def spW_goTowards : am_Sp := fun as D L K => match as with
  | [.ref 22, .int x] => ∃ (w : mw_T) (g : Int32) (to : Nat), x = nI to ∧ to ≤ 11 ∧ w 0 0 ≤ 11 ∧ w 0 0 ≠ to ∧ wx D w g ∧ ∀ D', fr 22 25 D D' → wx D' (mw_go g w to) g → K none D' L
  | _ => False
theorem moW_goTowards : am_mono spW_goTowards := by
  intro as D L K K' hK h
  unfold spW_goTowards at h ⊢
  split at h
  · obtain ⟨w, g, to, h1, h2, h3, h4, h5, h6⟩ := h
    exact ⟨w, g, to, h1, h2, h3, h4, h5, fun D' q1 q2 => hK _ _ _ (h6 D' q1 q2)⟩
  · exact h
theorem wpW_goTowards : ∀ (as : List Value) (D : am_D) (L : am_L) (K : am_K), spW_goTowards as D L K → am_fit 3 as = true ∧ am_Wp false 0 cdW_goTowards fnW_goTowards K 0 (am_lo 3 as) [] D L := by
  intro as D L K h
  unfold spW_goTowards at h
  split at h
  · obtain ⟨w, g, to, rfl, hto, hman, hne, ⟨aL, a4, a5, a6, a7, a8, a9, a10, a11, a12, a13, a14, a15, a16⟩, hK⟩ := h
    refine ⟨rfl, am_Wp_bl mfW_goTowards [] 60 _ _ _ _ _ ?_⟩
    (repeat ((conv => whnf); (first | refine zo0 ?_ | refine zo1 ?_ | refine br_z ?_ | refine br_o ?_ | refine br_zn ?_ | refine br_on ?_))); (conv => whnf)
    refine ⟨fun h1 => ?_, fun h1 => ?_⟩
    · rw [a4, nI_leI (by omega) (by omega)] at h1
      have en : nI (w 0 0) - 1 = nI (mw_nx w to) := by rw [nI_sub1 (by omega), mw_nx, if_neg (by omega)]
      (repeat ((conv => whnf); (first | refine zo0 ?_ | refine zo1 ?_ | refine br_z ?_ | refine br_o ?_ | refine br_zn ?_ | refine br_on ?_))); (conv => whnf)
      refine ⟨fun h2 => ?_, fun h2 => ?_⟩
      · rw [a4, en, a11] at h2
        (repeat ((conv => whnf); (first | refine zo0 ?_ | refine zo1 ?_ | refine br_z ?_ | refine br_o ?_ | refine br_zn ?_ | refine br_on ?_))); (conv => whnf)
        refine hK _ (by repeat (first | exact fr_rf | refine fr_up (by decide) (by decide) ?_ | refine fr_upA (by decide) (by decide) ?_)) ?_
        refine ⟨fun d hd => ?_, ?_⟩
        · obtain ⟨b1, b2, b3⟩ := aL d hd
          refine ⟨?_, ?_, ?_⟩ <;> simp [am_up, upd, up2, mw_go, mw_dog_f h2, en, nI_1, b1, b2, b3, nI_0, nc1, nc2, nc3, nc4]
        · refine ⟨?_, ?_, ?_, ?_, ?_, ?_, ?_, ?_, ?_, ?_, ?_, ?_, ?_⟩ <;> simp [am_up, upd, up2, mw_go, mw_dog_f h2, en, nI_1, a4, a5, a6, a7, a8, a9, a10, a11, a12, a13, a14, a15, a16, nI_0, nc1, nc2, nc3, nc4]
      · rw [a4, en, a11] at h2
        (repeat ((conv => whnf); (first | refine zo0 ?_ | refine zo1 ?_ | refine br_z ?_ | refine br_o ?_ | refine br_zn ?_ | refine br_on ?_))); (conv => whnf)
        refine hK _ (by repeat (first | exact fr_rf | refine fr_up (by decide) (by decide) ?_ | refine fr_upA (by decide) (by decide) ?_)) ?_
        refine ⟨fun d hd => ?_, ?_⟩
        · obtain ⟨b1, b2, b3⟩ := aL d hd
          refine ⟨?_, ?_, ?_⟩ <;> simp [am_up, upd, up2, mw_go, mw_dog_t h2, b1, b2, b3, nI_0, nc1, nc2, nc3, nc4]
        · refine ⟨?_, ?_, ?_, ?_, ?_, ?_, ?_, ?_, ?_, ?_, ?_, ?_, ?_⟩ <;> simp [am_up, upd, up2, mw_go, mw_dog_t h2, a4, a5, a6, a7, a8, a9, a10, a11, a12, a13, a14, a15, a16, nI_0, nc1, nc2, nc3, nc4]
    · rw [a4, nI_leI (by omega) (by omega)] at h1
      have en : nI (w 0 0) + 1 = nI (mw_nx w to) := by rw [nI_1, mw_nx, if_pos (by omega)]
      (repeat ((conv => whnf); (first | refine zo0 ?_ | refine zo1 ?_ | refine br_z ?_ | refine br_o ?_ | refine br_zn ?_ | refine br_on ?_))); (conv => whnf)
      refine ⟨fun h2 => ?_, fun h2 => ?_⟩
      · rw [a4, en, a11] at h2
        (repeat ((conv => whnf); (first | refine zo0 ?_ | refine zo1 ?_ | refine br_z ?_ | refine br_o ?_ | refine br_zn ?_ | refine br_on ?_))); (conv => whnf)
        refine hK _ (by repeat (first | exact fr_rf | refine fr_up (by decide) (by decide) ?_ | refine fr_upA (by decide) (by decide) ?_)) ?_
        refine ⟨fun d hd => ?_, ?_⟩
        · obtain ⟨b1, b2, b3⟩ := aL d hd
          refine ⟨?_, ?_, ?_⟩ <;> simp [am_up, upd, up2, mw_go, mw_dog_f h2, en, nI_1, b1, b2, b3, nI_0, nc1, nc2, nc3, nc4]
        · refine ⟨?_, ?_, ?_, ?_, ?_, ?_, ?_, ?_, ?_, ?_, ?_, ?_, ?_⟩ <;> simp [am_up, upd, up2, mw_go, mw_dog_f h2, en, nI_1, a4, a5, a6, a7, a8, a9, a10, a11, a12, a13, a14, a15, a16, nI_0, nc1, nc2, nc3, nc4]
      · rw [a4, en, a11] at h2
        (repeat ((conv => whnf); (first | refine zo0 ?_ | refine zo1 ?_ | refine br_z ?_ | refine br_o ?_ | refine br_zn ?_ | refine br_on ?_))); (conv => whnf)
        refine hK _ (by repeat (first | exact fr_rf | refine fr_up (by decide) (by decide) ?_ | refine fr_upA (by decide) (by decide) ?_)) ?_
        refine ⟨fun d hd => ?_, ?_⟩
        · obtain ⟨b1, b2, b3⟩ := aL d hd
          refine ⟨?_, ?_, ?_⟩ <;> simp [am_up, upd, up2, mw_go, mw_dog_t h2, b1, b2, b3, nI_0, nc1, nc2, nc3, nc4]
        · refine ⟨?_, ?_, ?_, ?_, ?_, ?_, ?_, ?_, ?_, ?_, ?_, ?_, ?_⟩ <;> simp [am_up, upd, up2, mw_go, mw_dog_t h2, a4, a5, a6, a7, a8, a9, a10, a11, a12, a13, a14, a15, a16, nI_0, nc1, nc2, nc3, nc4]
  · exact absurd h id
theorem clW_goTowards (l : Launch) : ∀ (a : Nat) (ins : Instr) (b dd : Nat), csW_goTowards[a]? = some (ins, b, dd) → am_Call l yW_goTowards.cls 1 ins b dd (fnW_goTowards a) := by
  intro a ins b dd h
  match a, h with
  | 0, h => cases h; exact am_callV (T := F_9) (N := 17) (okW_hasDog l) wcW_hasDog (am_m3 (i := 62) rfl rfl) wiW_hasDog wsW_hasDog inW rfl (by decide) (by decide +kernel) (by decide) (by decide)
  | k + 1, h => simp [csW_goTowards] at h
theorem okW_goTowards (l : Launch) : am_Ok l yW_goTowards prog_11_method_8_code 3 none 1 spW_goTowards := am_ok_of (by decide +kernel) flW_ok kiW_ok klW_ok ckW_goTowards (clW_goTowards l) wpW_goTowards
