/-! the class's own cells and the numbers -/
def fr (lo hi : Nat) (D D' : am_D) : Prop := ∀ k, k < lo ∨ hi < k → D' k = D k
theorem fr_rf {lo hi : Nat} {D : am_D} : fr lo hi D D := fun _ _ => rfl
theorem fr_up {lo hi : Nat} {D D' : am_D} {k j : Nat} {v : Int32} (h1 : lo ≤ k) (h2 : k ≤ hi) (h : fr lo hi D D') : fr lo hi D (am_up D' k j v) := fun q hq => by rw [am_up_ne (by omega)]; exact h q hq
theorem fr_upA {lo hi : Nat} {D D' : am_D} {k : Nat} {f : Nat → Int32} (h1 : lo ≤ k) (h2 : k ≤ hi) (h : fr lo hi D D') : fr lo hi D (am_upA D' k f) := fun q hq => by
  have : ¬ q = k := by omega
  simp only [am_upA, if_neg this]
  exact h q hq
theorem fr_tr {lo hi : Nat} {D D' D'' : am_D} (h1 : fr lo hi D D') (h2 : fr lo hi D' D'') : fr lo hi D D'' := fun q hq => (h2 q hq).trans (h1 q hq)
theorem fr_wk {lo hi lo' hi' : Nat} {D D' : am_D} (h1 : lo' ≤ lo) (h2 : hi ≤ hi') (h : fr lo hi D D') : fr lo' hi' D D' := fun q hq => h q (by omega)
theorem zo0 {A : Prop} (h : A) : ((0 : Int32) = 0 ∨ (0 : Int32) = 1) ∧ A := ⟨Or.inl rfl, h⟩
theorem zo1 {A : Prop} (h : A) : ((1 : Int32) = 0 ∨ (1 : Int32) = 1) ∧ A := ⟨Or.inr rfl, h⟩
theorem br_z {A B : Prop} (h : A) : ((0 : Int32) = 0 → A) ∧ (¬ (0 : Int32) = 0 → B) := ⟨fun _ => h, fun q => absurd rfl q⟩
theorem br_o {A B : Prop} (h : B) : ((1 : Int32) = 0 → A) ∧ (¬ (1 : Int32) = 0 → B) := ⟨fun q => absurd q (by decide), fun _ => h⟩
theorem br_zn {A B : Prop} (h : B) : (¬ (0 : Int32) = 0 → A) ∧ ((0 : Int32) = 0 → B) := ⟨fun q => absurd rfl q, fun _ => h⟩
theorem br_on {A B : Prop} (h : A) : (¬ (1 : Int32) = 0 → A) ∧ ((1 : Int32) = 0 → B) := ⟨fun _ => h, fun q => absurd q (by decide)⟩
/-- the walk -/
def wx (D : am_D) (w : mw_T) (g : Int32) : Prop := (∀ d, d < 12 → D 23 d = nI (w 1 d) ∧ D 24 d = nI (w 2 d) ∧ D 25 d = nI (w 3 d)) ∧ D 22 4 = nI (w 0 0) ∧ D 22 5 = nI (w 0 1) ∧ D 22 6 = nI (w 0 2) ∧ D 22 7 = nI (w 0 3) ∧ D 22 8 = nI (w 0 4) ∧ D 22 9 = nI (w 0 5) ∧ D 22 10 = nI (w 0 6) ∧ D 22 11 = g ∧ D 22 13 = nI (w 0 8) ∧ D 22 14 = nI (w 0 9) ∧ D 22 15 = nI (w 0 10) ∧ D 22 16 = nI (w 0 11)
def wd (D : am_D) (w : mw_T) : Prop := D 22 12 = nI (w 0 7)
/-- a plan at the cell kp -/
def px (D : am_D) (kp : Nat) (P : mw_T) : Prop := D kp 3 = nI (P 0 0) ∧ D kp 4 = nI (P 0 1) ∧ D kp 5 = nI (P 0 2) ∧ D kp 6 = nI (P 0 3) ∧ (∀ d, d < 12 → D (kp + 1) d = nI (P 1 d) ∧ D (kp + 2) d = nI (P 2 d)) ∧ ∀ i, i < 24 → D (kp + 3) i = nI (P 3 i)
/-- which events are -/
def prx (a : Int32) (pr : Nat → Bool) : Prop := ∀ i, i < 8 → pr i = decide ((a >>> (nI i &&& 31)) &&& 1 = 0)
def ex (D : am_D) (E : mw_T) : Prop := D 7 3 = nI (E 0 0) ∧ ∀ i, i < E 0 0 → D 8 i = nI (E 1 i) ∧ D 9 i = nI (E 2 i) ∧ D 10 i = nI (E 3 i)
theorem nc1 : nI 1 = 1 := by decide +kernel
theorem nc2 : nI 2 = 2 := by decide +kernel
theorem nc3 : nI 3 = 3 := by decide +kernel
theorem nc4 : nI 4 = 4 := by decide +kernel
theorem nI_sub1 {n : Nat} (h : 0 < n) : nI n - 1 = nI (n - 1) := by
  rw [show n = (n - 1) + 1 by omega, nI_pred, Nat.add_sub_cancel]
theorem mw_dog_f {g : Int32} {d : Nat} (h : (g >>> (nI d &&& 31)) &&& 1 = 0) : mw_dog g d = false := by simp [mw_dog, h]
theorem mw_dog_t {g : Int32} {d : Nat} (h : ¬ (g >>> (nI d &&& 31)) &&& 1 = 0) : mw_dog g d = true := by simp [mw_dog, h]
theorem nz2 {A : Prop} (h : A) : ¬ (2 : Int32) = 0 ∧ A := ⟨by decide, h⟩
theorem nz6 {A : Prop} (h : A) : ¬ (6 : Int32) = 0 ∧ A := ⟨by decide, h⟩
theorem nz32 {A : Prop} (h : A) : ¬ (32 : Int32) = 0 ∧ A := ⟨by decide, h⟩
theorem mn_nI {a b : Nat} (ha : a < 2 ^ 31) (hb : b < 2 ^ 31) : (if nI b < nI a then nI b else nI a) = nI (min a b) := by
  by_cases h : b < a
  · rw [if_pos (nI_lt h ha), Nat.min_eq_right (by omega)]
  · rw [if_neg (nI_nlt (by omega) hb), Nat.min_eq_left (by omega)]
theorem pull1 : ∀ c, c < 12 → ∀ m, m < 12 → nI c + (if -(1 : Int32) < (if nI m - nI c < 1 then nI m - nI c else 1) then (if nI m - nI c < 1 then nI m - nI c else 1) else -1) = nI (mw_tw c m 1) := by decide +kernel
theorem pull3 : ∀ c, c < 12 → ∀ m, m < 12 → nI c + (if -(3 : Int32) < (if nI m - nI c < 3 then nI m - nI c else 3) then (if nI m - nI c < 3 then nI m - nI c else 3) else -3) = nI (mw_tw c m 3) := by decide +kernel
theorem far2 : ∀ m, m < 12 → ∀ c, c < 12 → ((if 0 ≤ nI m - nI c then nI m - nI c else 0 - (nI m - nI c)) < 2 ↔ ¬ (m + 2 ≤ c ∨ c + 2 ≤ m)) := by decide +kernel
theorem even2 : ∀ t, t < 48 → (nI t - nI t / 2 * 2 = 0 ↔ t % 2 = 0) := by decide +kernel
theorem ln_2 : am_len 2 = 24 := rfl
theorem ln_4 : am_len 4 = 24 := rfl
theorem ln_6 : am_len 6 = 24 := rfl
theorem ln_8 : am_len 8 = 8 := rfl
theorem ln_9 : am_len 9 = 8 := rfl
theorem ln_10 : am_len 10 = 8 := rfl
theorem ln_12 : am_len 12 = 8 := rfl
theorem ln_13 : am_len 13 = 8 := rfl
theorem ln_15 : am_len 15 = 12 := rfl
theorem ln_16 : am_len 16 = 12 := rfl
theorem ln_17 : am_len 17 = 24 := rfl
theorem ln_19 : am_len 19 = 12 := rfl
theorem ln_20 : am_len 20 = 12 := rfl
theorem ln_21 : am_len 21 = 24 := rfl
theorem ln_23 : am_len 23 = 12 := rfl
theorem ln_24 : am_len 24 = 12 := rfl
theorem ln_25 : am_len 25 = 12 := rfl
theorem ln_26 : am_len 26 = 48 := rfl
theorem ln_28 : am_len 28 = 240 := rfl
theorem ln_29 : am_len 29 = 1728 := rfl
theorem ln_30 : am_len 30 = 12 := rfl
theorem ln_31 : am_len 31 = 5 := rfl
theorem ln_37 : am_len 37 = 256 := rfl
theorem ln_38 : am_len 38 = 9 := rfl
theorem ln_39 : am_len 39 = 576 := rfl
theorem ln_40 : am_len 40 = 4 := rfl
theorem ln_42 : am_len 42 = 60 := rfl
theorem ln_44 : am_len 44 = 60 := rfl
theorem ln_46 : am_len 46 = 60 := rfl
theorem ln_48 : am_len 48 = 60 := rfl
theorem ln_50 : am_len 50 = 3 := rfl
theorem ln_51 : am_len 51 = 72 := rfl
theorem ln_52 : am_len 52 = 12 := rfl
theorem ln_53 : am_len 53 = 12 := rfl
theorem ln_54 : am_len 54 = 24 := rfl
theorem ln_55 : am_len 55 = 3 := rfl
theorem ln_56 : am_len 56 = 8 := rfl
theorem ln_57 : am_len 57 = 8 := rfl
theorem ln_58 : am_len 58 = 8 := rfl
theorem ln_59 : am_len 59 = 12 := rfl
theorem ln_60 : am_len 60 = 24 := rfl
theorem ln_61 : am_len 61 = 12 := rfl
theorem ln_62 : am_len 62 = 12 := rfl
theorem ln_63 : am_len 63 = 12 := rfl
theorem ln_64 : am_len 64 = 12 := rfl
theorem ln_65 : am_len 65 = 48 := rfl
theorem ln_66 : am_len 66 = 48 := rfl
theorem ln_67 : am_len 67 = 48 := rfl
theorem ln_68 : am_len 68 = 48 := rfl
theorem ln_69 : am_len 69 = 48 := rfl
theorem ln_70 : am_len 70 = 2 := rfl
theorem ln_71 : am_len 71 = 8 := rfl
theorem ln_72 : am_len 72 = 8 := rfl
theorem ln_73 : am_len 73 = 432 := rfl
theorem ln_74 : am_len 74 = 4 := rfl
theorem ln_75 : am_len 75 = 4 := rfl
theorem ln_76 : am_len 76 = 4 := rfl
theorem ln_77 : am_len 77 = 240 := rfl
theorem ln_78 : am_len 78 = 60 := rfl
theorem cl0 : (0 : Int32).toNatClampNeg = 0 := by decide +kernel
theorem cl12 : (12 : Int32).toNatClampNeg = 12 := by decide +kernel
theorem cl24 : (24 : Int32).toNatClampNeg = 24 := by decide +kernel
def fnW_hasDog : Nat → am_Sp := fun _ => am_no
theorem mfW_hasDog : ∀ a, am_mono (fnW_hasDog a) := fun _ => am_no_mono
def spW_hasDog : am_Sp := am_ini cdW_hasDog fnW_hasDog 14 2
theorem moW_hasDog : am_mono spW_hasDog := am_ini_mono mfW_hasDog
theorem wpW_hasDog : ∀ (as : List Value) (D : am_D) (L : am_L) (K : am_K), spW_hasDog as D L K → am_fit 2 as = true ∧ am_Wp false 0 cdW_hasDog fnW_hasDog K 0 (am_lo 2 as) [] D L := am_ini_Wp mfW_hasDog
theorem clW_hasDog (l : Launch) : ∀ (a : Nat) (ins : Instr) (b dd : Nat), csW_hasDog[a]? = some (ins, b, dd) → am_Call l yW_hasDog.cls 0 ins b dd (fnW_hasDog a) := by
  intro a ins b dd h
  match a, h with
  | k + 0, h => simp [csW_hasDog] at h
theorem okW_hasDog (l : Launch) : am_Ok l yW_hasDog prog_11_method_9_code 2 (some .boolean) 0 spW_hasDog := am_ok_of (by decide +kernel) flW_ok kiW_ok klW_ok ckW_hasDog (clW_hasDog l) wpW_hasDog
def fnW_goTowards : Nat → am_Sp := fun a => match a with
  | 0 => spW_hasDog
  | _ => am_no
theorem mfW_goTowards : ∀ a, am_mono (fnW_goTowards a) := fun a => match a with
  | 0 => moW_hasDog
  | _ + 1 => am_no_mono
def spW_goTowards : am_Sp := fun as D L K => match as with
  | [.ref 22, .int x] => ∃ (w : mw_T) (g : Int32) (to : Nat), x = nI to ∧ to ≤ 11 ∧ w 0 0 ≤ 11 ∧ w 0 0 ≠ to ∧ wx D w g ∧ ∀ D', fr 22 25 D D' → wx D' (mw_go g w to) g → wd D' (mw_go g w to) → K none D' L
  | _ => False
theorem moW_goTowards : am_mono spW_goTowards := by
  intro as D L K K' hK h
  unfold spW_goTowards at h ⊢
  split at h
  · obtain ⟨w, g, to, h1, h2, h3, h4, h5, h6⟩ := h
    exact ⟨w, g, to, h1, h2, h3, h4, h5, fun D' q1 q2 q3 => hK _ _ _ (h6 D' q1 q2 q3)⟩
  · exact h
theorem wpW_goTowards : ∀ (as : List Value) (D : am_D) (L : am_L) (K : am_K), spW_goTowards as D L K → am_fit 3 as = true ∧ am_Wp false 0 cdW_goTowards fnW_goTowards K 0 (am_lo 3 as) [] D L := by
  intro as D L K h
  unfold spW_goTowards at h
  split at h
  · obtain ⟨w, g, to, rfl, hto, hman, hne, ⟨aL, a4, a5, a6, a7, a8, a9, a10, a11, a13, a14, a15, a16⟩, hK⟩ := h
    refine ⟨rfl, am_Wp_bl mfW_goTowards [] 60 _ _ _ _ _ ?_⟩
    (repeat ((conv => whnf); (first | refine zo0 ?_ | refine zo1 ?_ | refine br_z ?_ | refine br_o ?_ | refine br_zn ?_ | refine br_on ?_ | refine nz2 ?_ | refine nz6 ?_ | refine nz32 ?_ | refine And.intro (by assumption) ?_))); (conv => whnf)
    refine ⟨fun h1 => ?_, fun h1 => ?_⟩
    · rw [a4, nI_leI (by omega) (by omega)] at h1
      have en : nI (w 0 0) - 1 = nI (mw_nx w to) := by rw [nI_sub1 (by omega), mw_nx, if_neg (by omega)]
      (repeat ((conv => whnf); (first | refine zo0 ?_ | refine zo1 ?_ | refine br_z ?_ | refine br_o ?_ | refine br_zn ?_ | refine br_on ?_ | refine nz2 ?_ | refine nz6 ?_ | refine nz32 ?_ | refine And.intro (by assumption) ?_))); (conv => whnf)
      refine ⟨fun h2 => ?_, fun h2 => ?_⟩
      · rw [a4, en, a11] at h2
        (repeat ((conv => whnf); (first | refine zo0 ?_ | refine zo1 ?_ | refine br_z ?_ | refine br_o ?_ | refine br_zn ?_ | refine br_on ?_ | refine nz2 ?_ | refine nz6 ?_ | refine nz32 ?_ | refine And.intro (by assumption) ?_))); (conv => whnf)
        refine hK _ (by repeat (first | exact fr_rf | refine fr_up (by decide) (by decide) ?_ | refine fr_upA (by decide) (by decide) ?_)) ?_ (by simp [wd, am_up, upd, up2, mw_go, mw_dog_f h2, en, nI_1, nc1, nc4])
        refine ⟨fun d hd => ?_, ?_⟩
        · obtain ⟨b1, b2, b3⟩ := aL d hd
          refine ⟨?_, ?_, ?_⟩ <;> simp [am_up, upd, up2, mw_go, mw_dog_f h2, en, nI_1, b1, b2, b3, nI_0, nc1, nc2, nc3, nc4]
        · refine ⟨?_, ?_, ?_, ?_, ?_, ?_, ?_, ?_, ?_, ?_, ?_, ?_⟩ <;> simp [am_up, upd, up2, mw_go, mw_dog_f h2, en, nI_1, a4, a5, a6, a7, a8, a9, a10, a11, a13, a14, a15, a16, nI_0, nc1, nc2, nc3, nc4]
      · rw [a4, en, a11] at h2
        (repeat ((conv => whnf); (first | refine zo0 ?_ | refine zo1 ?_ | refine br_z ?_ | refine br_o ?_ | refine br_zn ?_ | refine br_on ?_ | refine nz2 ?_ | refine nz6 ?_ | refine nz32 ?_ | refine And.intro (by assumption) ?_))); (conv => whnf)
        refine hK _ (by repeat (first | exact fr_rf | refine fr_up (by decide) (by decide) ?_ | refine fr_upA (by decide) (by decide) ?_)) ?_ (by simp [wd, am_up, upd, up2, mw_go, mw_dog_t h2, nc1, nc4])
        refine ⟨fun d hd => ?_, ?_⟩
        · obtain ⟨b1, b2, b3⟩ := aL d hd
          refine ⟨?_, ?_, ?_⟩ <;> simp [am_up, upd, up2, mw_go, mw_dog_t h2, b1, b2, b3, nI_0, nc1, nc2, nc3, nc4]
        · refine ⟨?_, ?_, ?_, ?_, ?_, ?_, ?_, ?_, ?_, ?_, ?_, ?_⟩ <;> simp [am_up, upd, up2, mw_go, mw_dog_t h2, a4, a5, a6, a7, a8, a9, a10, a11, a13, a14, a15, a16, nI_0, nc1, nc2, nc3, nc4]
    · rw [a4, nI_leI (by omega) (by omega)] at h1
      have en : nI (w 0 0) + 1 = nI (mw_nx w to) := by rw [nI_1, mw_nx, if_pos (by omega)]
      (repeat ((conv => whnf); (first | refine zo0 ?_ | refine zo1 ?_ | refine br_z ?_ | refine br_o ?_ | refine br_zn ?_ | refine br_on ?_ | refine nz2 ?_ | refine nz6 ?_ | refine nz32 ?_ | refine And.intro (by assumption) ?_))); (conv => whnf)
      refine ⟨fun h2 => ?_, fun h2 => ?_⟩
      · rw [a4, en, a11] at h2
        (repeat ((conv => whnf); (first | refine zo0 ?_ | refine zo1 ?_ | refine br_z ?_ | refine br_o ?_ | refine br_zn ?_ | refine br_on ?_ | refine nz2 ?_ | refine nz6 ?_ | refine nz32 ?_ | refine And.intro (by assumption) ?_))); (conv => whnf)
        refine hK _ (by repeat (first | exact fr_rf | refine fr_up (by decide) (by decide) ?_ | refine fr_upA (by decide) (by decide) ?_)) ?_ (by simp [wd, am_up, upd, up2, mw_go, mw_dog_f h2, en, nI_1, nc1, nc4])
        refine ⟨fun d hd => ?_, ?_⟩
        · obtain ⟨b1, b2, b3⟩ := aL d hd
          refine ⟨?_, ?_, ?_⟩ <;> simp [am_up, upd, up2, mw_go, mw_dog_f h2, en, nI_1, b1, b2, b3, nI_0, nc1, nc2, nc3, nc4]
        · refine ⟨?_, ?_, ?_, ?_, ?_, ?_, ?_, ?_, ?_, ?_, ?_, ?_⟩ <;> simp [am_up, upd, up2, mw_go, mw_dog_f h2, en, nI_1, a4, a5, a6, a7, a8, a9, a10, a11, a13, a14, a15, a16, nI_0, nc1, nc2, nc3, nc4]
      · rw [a4, en, a11] at h2
        (repeat ((conv => whnf); (first | refine zo0 ?_ | refine zo1 ?_ | refine br_z ?_ | refine br_o ?_ | refine br_zn ?_ | refine br_on ?_ | refine nz2 ?_ | refine nz6 ?_ | refine nz32 ?_ | refine And.intro (by assumption) ?_))); (conv => whnf)
        refine hK _ (by repeat (first | exact fr_rf | refine fr_up (by decide) (by decide) ?_ | refine fr_upA (by decide) (by decide) ?_)) ?_ (by simp [wd, am_up, upd, up2, mw_go, mw_dog_t h2, nc1, nc4])
        refine ⟨fun d hd => ?_, ?_⟩
        · obtain ⟨b1, b2, b3⟩ := aL d hd
          refine ⟨?_, ?_, ?_⟩ <;> simp [am_up, upd, up2, mw_go, mw_dog_t h2, b1, b2, b3, nI_0, nc1, nc2, nc3, nc4]
        · refine ⟨?_, ?_, ?_, ?_, ?_, ?_, ?_, ?_, ?_, ?_, ?_, ?_⟩ <;> simp [am_up, upd, up2, mw_go, mw_dog_t h2, a4, a5, a6, a7, a8, a9, a10, a11, a13, a14, a15, a16, nI_0, nc1, nc2, nc3, nc4]
  · exact absurd h id
theorem clW_goTowards (l : Launch) : ∀ (a : Nat) (ins : Instr) (b dd : Nat), csW_goTowards[a]? = some (ins, b, dd) → am_Call l yW_goTowards.cls 1 ins b dd (fnW_goTowards a) := by
  intro a ins b dd h
  match a, h with
  | 0, h => cases h; exact am_callV (T := F_9) (N := 17) (okW_hasDog l) wcW_hasDog (am_m3 (i := 62) rfl rfl) wiW_hasDog wsW_hasDog inW rfl (by decide) (by decide +kernel) (by decide) (by decide)
  | k + 1, h => simp [csW_goTowards] at h
theorem okW_goTowards (l : Launch) : am_Ok l yW_goTowards prog_11_method_8_code 3 none 1 spW_goTowards := am_ok_of (by decide +kernel) flW_ok kiW_ok klW_ok ckW_goTowards (clW_goTowards l) wpW_goTowards
def fnW_fillCrate : Nat → am_Sp := fun a => match a with
  | 0 => spJ_min
  | _ => am_no
theorem mfW_fillCrate : ∀ a, am_mono (fnW_fillCrate a) := fun a => match a with
  | 0 => moJ_min
  | _ + 1 => am_no_mono
def spW_fillCrate : am_Sp := fun as D L K => match as with
  | [.ref 22, .int x] => ∃ (w : mw_T) (g : Int32) (room : Nat), x = nI room ∧ room ≤ 8 ∧ w 0 2 ≤ 60 ∧ wx D w g ∧ ∀ D', fr 22 25 D D' → wx D' (mw_fill room w) g → wd D' (mw_fill room w) → K none D' L
  | _ => False
theorem moW_fillCrate : am_mono spW_fillCrate := by
  intro as D L K K' hK h
  unfold spW_fillCrate at h ⊢
  split at h
  · obtain ⟨w, g, room, h1, h2, h3, h4, h5⟩ := h
    exact ⟨w, g, room, h1, h2, h3, h4, fun D' q1 q2 q3 => hK _ _ _ (h5 D' q1 q2 q3)⟩
  · exact h
theorem wpW_fillCrate : ∀ (as : List Value) (D : am_D) (L : am_L) (K : am_K), spW_fillCrate as D L K → am_fit 2 as = true ∧ am_Wp false 0 cdW_fillCrate fnW_fillCrate K 0 (am_lo 2 as) [] D L := by
  intro as D L K h
  unfold spW_fillCrate at h
  split at h
  · obtain ⟨w, g, room, rfl, hr, hst, ⟨aL, a4, a5, a6, a7, a8, a9, a10, a11, a13, a14, a15, a16⟩, hK⟩ := h
    have em := mn_nI (a := room) (b := w 0 2) (by omega) (by omega)
    have es : nI (w 0 2) - nI (min room (w 0 2)) = nI (w 0 2 - min room (w 0 2)) := pk_sub (Nat.min_le_right _ _)
    refine ⟨rfl, am_Wp_bl mfW_fillCrate [] 60 _ _ _ _ _ ?_⟩
    (repeat ((conv => whnf); (first | refine zo0 ?_ | refine zo1 ?_ | refine br_z ?_ | refine br_o ?_ | refine br_zn ?_ | refine br_on ?_ | refine nz2 ?_ | refine nz6 ?_ | refine nz32 ?_ | refine And.intro (by assumption) ?_))); (conv => whnf)
    refine ⟨fun h1 => ?_, fun h1 => ?_⟩
    · have h2 : ¬ w 0 2 = 0 := by
        intro q
        apply h1
        simp [am_up, upd, a6, q, nI_0]
      (repeat ((conv => whnf); (first | refine zo0 ?_ | refine zo1 ?_ | refine br_z ?_ | refine br_o ?_ | refine br_zn ?_ | refine br_on ?_ | refine nz2 ?_ | refine nz6 ?_ | refine nz32 ?_ | refine And.intro (by assumption) ?_))); (conv => whnf)
      refine hK _ (by repeat (first | exact fr_rf | refine fr_up (by decide) (by decide) ?_ | refine fr_upA (by decide) (by decide) ?_)) ?_ (by simp [wd, am_up, upd, up2, mw_fill, nc2])
      refine ⟨fun d hd => ?_, ?_⟩
      · obtain ⟨b1, b2, b3⟩ := aL d hd
        refine ⟨?_, ?_, ?_⟩ <;> simp [am_up, upd, up2, mw_fill, h2, em, es, nI_1, nI_add, b1, b2, b3, nI_0, nc1, nc2, nc3, nc4]
      · refine ⟨?_, ?_, ?_, ?_, ?_, ?_, ?_, ?_, ?_, ?_, ?_, ?_⟩ <;> simp [am_up, upd, up2, mw_fill, h2, em, es, nI_1, nI_add, a4, a5, a6, a7, a8, a9, a10, a11, a13, a14, a15, a16, nI_0, nc1, nc2, nc3, nc4]
    · have h2 : w 0 2 = 0 := by
        simp [am_up, upd, a6] at h1
        rcases Nat.eq_zero_or_pos (w 0 2) with q | q
        · exact q
        · exact absurd h1 (nI_ne0 q (by omega))
      have e6 : (if w 0 2 = 0 then (1 : Nat) else 0) = 1 := by rw [if_pos h2]
      (repeat ((conv => whnf); (first | refine zo0 ?_ | refine zo1 ?_ | refine br_z ?_ | refine br_o ?_ | refine br_zn ?_ | refine br_on ?_ | refine nz2 ?_ | refine nz6 ?_ | refine nz32 ?_ | refine And.intro (by assumption) ?_))); (conv => whnf)
      refine hK _ (by repeat (first | exact fr_rf | refine fr_up (by decide) (by decide) ?_ | refine fr_upA (by decide) (by decide) ?_)) ?_ (by simp [wd, am_up, upd, up2, mw_fill, nc2])
      refine ⟨fun d hd => ?_, ?_⟩
      · obtain ⟨b1, b2, b3⟩ := aL d hd
        refine ⟨?_, ?_, ?_⟩ <;> simp [am_up, upd, up2, mw_fill, em, es, nI_1, nI_add, e6, b1, b2, b3, nI_0, nc1, nc2, nc3, nc4]
      · refine ⟨?_, ?_, ?_, ?_, ?_, ?_, ?_, ?_, ?_, ?_, ?_, ?_⟩ <;> simp [am_up, upd, up2, mw_fill, em, es, nI_1, nI_add, e6, a4, a5, a6, a7, a8, a9, a10, a11, a13, a14, a15, a16, nI_0, nc1, nc2, nc3, nc4]
  · exact absurd h id
theorem clW_fillCrate (l : Launch) : ∀ (a : Nat) (ins : Instr) (b dd : Nat), csW_fillCrate[a]? = some (ins, b, dd) → am_Call l yW_fillCrate.cls 1 ins b dd (fnW_fillCrate a) := by
  intro a ins b dd h
  match a, h with
  | 0, h => cases h; exact am_callMin (am_m3 (i := 42) rfl rfl) (wcJ_min) (wtJ_min) inJM (by decide)
  | k + 1, h => simp [csW_fillCrate] at h
theorem okW_fillCrate (l : Launch) : am_Ok l yW_fillCrate prog_11_method_10_code 2 none 1 spW_fillCrate := am_ok_of (by decide +kernel) flW_ok kiW_ok klW_ok ckW_fillCrate (clW_fillCrate l) wpW_fillCrate
def fnW_pullCart : Nat → am_Sp := fun a => match a with
  | 0 => spJ_min
  | 1 => spJ_max
  | _ => am_no
theorem mfW_pullCart : ∀ a, am_mono (fnW_pullCart a) := fun a => match a with
  | 0 => moJ_min
  | 1 => moJ_max
  | _ + 2 => am_no_mono
def spW_pullCart : am_Sp := fun as D L K => match as with
  | [.ref 22, .int x] => ∃ (w : mw_T) (g : Int32) (k : Nat), ((x = 1 ∧ k = 1) ∨ (x = 3 ∧ k = 3)) ∧ w 0 0 ≤ 11 ∧ w 0 1 ≤ 11 ∧ wx D w g ∧ ∀ D', fr 22 25 D D' → D' 22 12 = D 22 12 → wx D' (up2 w 0 1 (mw_tw (w 0 1) (w 0 0) k)) g → K none D' L
  | _ => False
theorem moW_pullCart : am_mono spW_pullCart := by
  intro as D L K K' hK h
  unfold spW_pullCart at h ⊢
  split at h
  · obtain ⟨w, g, k, h1, h2, h3, h4, h5⟩ := h
    exact ⟨w, g, k, h1, h2, h3, h4, fun D' q1 q2 q3 => hK _ _ _ (h5 D' q1 q2 q3)⟩
  · exact h
theorem wpW_pullCart : ∀ (as : List Value) (D : am_D) (L : am_L) (K : am_K), spW_pullCart as D L K → am_fit 2 as = true ∧ am_Wp false 0 cdW_pullCart fnW_pullCart K 0 (am_lo 2 as) [] D L := by
  intro as D L K h
  unfold spW_pullCart at h
  split at h
  · obtain ⟨w, g, k, hx, hm, hc, ⟨aL, a4, a5, a6, a7, a8, a9, a10, a11, a13, a14, a15, a16⟩, hK⟩ := h
    refine ⟨rfl, am_Wp_bl mfW_pullCart [] 60 _ _ _ _ _ ?_⟩
    (repeat ((conv => whnf); (first | refine zo0 ?_ | refine zo1 ?_ | refine br_z ?_ | refine br_o ?_ | refine br_zn ?_ | refine br_on ?_ | refine nz2 ?_ | refine nz6 ?_ | refine nz32 ?_ | refine And.intro (by assumption) ?_))); (conv => whnf)
    refine hK _ (by repeat (first | exact fr_rf | refine fr_up (by decide) (by decide) ?_ | refine fr_upA (by decide) (by decide) ?_)) (by simp [am_up, upd]) ?_
    rw [a4, a5]
    rcases hx with ⟨rfl, rfl⟩ | ⟨rfl, rfl⟩
    · rw [pull1 _ (by omega) _ (by omega)]
      refine ⟨fun d hd => ?_, ?_⟩
      · obtain ⟨b1, b2, b3⟩ := aL d hd
        refine ⟨?_, ?_, ?_⟩ <;> simp [am_up, upd, up2, b1, b2, b3, nI_0, nc1, nc2, nc3, nc4]
      · refine ⟨?_, ?_, ?_, ?_, ?_, ?_, ?_, ?_, ?_, ?_, ?_, ?_⟩ <;> simp [am_up, upd, up2, a4, a5, a6, a7, a8, a9, a10, a11, a13, a14, a15, a16, nI_0, nc1, nc2, nc3, nc4]
    · rw [pull3 _ (by omega) _ (by omega)]
      refine ⟨fun d hd => ?_, ?_⟩
      · obtain ⟨b1, b2, b3⟩ := aL d hd
        refine ⟨?_, ?_, ?_⟩ <;> simp [am_up, upd, up2, b1, b2, b3, nI_0, nc1, nc2, nc3, nc4]
      · refine ⟨?_, ?_, ?_, ?_, ?_, ?_, ?_, ?_, ?_, ?_, ?_, ?_⟩ <;> simp [am_up, upd, up2, a4, a5, a6, a7, a8, a9, a10, a11, a13, a14, a15, a16, nI_0, nc1, nc2, nc3, nc4]
  · exact absurd h id
theorem clW_pullCart (l : Launch) : ∀ (a : Nat) (ins : Instr) (b dd : Nat), csW_pullCart[a]? = some (ins, b, dd) → am_Call l yW_pullCart.cls 1 ins b dd (fnW_pullCart a) := by
  intro a ins b dd h
  match a, h with
  | 0, h => cases h; exact am_callMin (am_m3 (i := 42) rfl rfl) (wcJ_min) (wtJ_min) inJM (by decide)
  | 1, h => cases h; exact am_callMax (am_m3 (i := 45) rfl rfl) (wcJ_max) (wtJ_max) inJM (by decide)
  | k + 2, h => simp [csW_pullCart] at h
theorem okW_pullCart (l : Launch) : am_Ok l yW_pullCart prog_11_method_6_code 2 none 1 spW_pullCart := am_ok_of (by decide +kernel) flW_ok kiW_ok klW_ok ckW_pullCart (clW_pullCart l) wpW_pullCart
def fnW_drive : Nat → am_Sp := fun a => match a with
  | 0 => spJ_abs
  | 1 => spW_pullCart
  | _ => am_no
theorem mfW_drive : ∀ a, am_mono (fnW_drive a) := fun a => match a with
  | 0 => moJ_abs
  | 1 => moW_pullCart
  | _ + 2 => am_no_mono
def spW_drive : am_Sp := fun as D L K => match as with
  | [.ref 22, .int x, .int y] => ∃ (P w : mw_T) (g : Int32) (t : Nat), x = nI (P 0 1) ∧ P 0 1 ≤ 2 ∧ y = nI t ∧ t < 48 ∧ w 0 0 ≤ 11 ∧ w 0 1 ≤ 11 ∧ wx D w g ∧ ∀ D', fr 22 25 D D' → D' 22 12 = D 22 12 → wx D' (mw_drive P t w) g → K none D' L
  | _ => False
theorem moW_drive : am_mono spW_drive := by
  intro as D L K K' hK h
  unfold spW_drive at h ⊢
  split at h
  · obtain ⟨P, w, g, t, h1, h2, h3, h4, h5, h6, h7, h8⟩ := h
    exact ⟨P, w, g, t, h1, h2, h3, h4, h5, h6, h7, fun D' q1 q2 q3 => hK _ _ _ (h8 D' q1 q2 q3)⟩
  · exact h
theorem wpW_drive : ∀ (as : List Value) (D : am_D) (L : am_L) (K : am_K), spW_drive as D L K → am_fit 5 as = true ∧ am_Wp false 0 cdW_drive fnW_drive K 0 (am_lo 5 as) [] D L := by
  intro as D L K h
  unfold spW_drive at h
  split at h
  · obtain ⟨P, w, g, t, rfl, hh, rfl, ht, hm, hc, hw, hK⟩ := h
    have a4 := hw.2.1
    have a5 := hw.2.2.1
    have pull : (P 0 1 = 1 ∧ (w 0 0 + 2 ≤ w 0 1 ∨ w 0 1 + 2 ≤ w 0 0)) ∨ (P 0 1 = 2 ∧ t % 2 = 0) → ∀ D', fr 22 25 D D' → D' 22 12 = D 22 12 → wx D' (up2 w 0 1 (mw_tw (w 0 1) (w 0 0) 1)) g → K none D' L := fun q D' q1 q2 q3 => hK D' q1 q2 (by rw [mw_drive, if_pos q]; exact q3)
    have stay : ¬ ((P 0 1 = 1 ∧ (w 0 0 + 2 ≤ w 0 1 ∨ w 0 1 + 2 ≤ w 0 0)) ∨ (P 0 1 = 2 ∧ t % 2 = 0)) → K none D L := fun q => hK D fr_rf rfl (by rw [mw_drive, if_neg q]; exact hw)
    have e1 : nI (P 0 1) = 1 ↔ P 0 1 = 1 := by rw [← nc1, nI_eq (by omega) (by omega)]
    have e2 : nI (P 0 1) = 2 ↔ P 0 1 = 2 := by rw [← nc2, nI_eq (by omega) (by omega)]
    have e3 := far2 (w 0 0) (by omega) (w 0 1) (by omega)
    have e4 := even2 t ht
    refine ⟨rfl, am_Wp_bl mfW_drive [] 60 _ _ _ _ _ ?_⟩
    (repeat ((conv => whnf); (first | refine zo0 ?_ | refine zo1 ?_ | refine br_z ?_ | refine br_o ?_ | refine br_zn ?_ | refine br_on ?_ | refine nz2 ?_ | refine nz6 ?_ | refine nz32 ?_ | refine And.intro (by assumption) ?_))); (conv => whnf)
    refine ⟨fun h1 => ?_, fun h1 => ?_⟩
    · rw [e1] at h1
      (repeat ((conv => whnf); (first | refine zo0 ?_ | refine zo1 ?_ | refine br_z ?_ | refine br_o ?_ | refine br_zn ?_ | refine br_on ?_ | refine nz2 ?_ | refine nz6 ?_ | refine nz32 ?_ | refine And.intro (by assumption) ?_))); (conv => whnf)
      refine ⟨fun h2 => ?_, fun h2 => ?_⟩
      · rw [e2] at h2
        (repeat ((conv => whnf); (first | refine zo0 ?_ | refine zo1 ?_ | refine br_z ?_ | refine br_o ?_ | refine br_zn ?_ | refine br_on ?_ | refine nz2 ?_ | refine nz6 ?_ | refine nz32 ?_ | refine And.intro (by assumption) ?_))); (conv => whnf)
        exact stay (by omega)
      · rw [e2] at h2
        (repeat ((conv => whnf); (first | refine zo0 ?_ | refine zo1 ?_ | refine br_z ?_ | refine br_o ?_ | refine br_zn ?_ | refine br_on ?_ | refine nz2 ?_ | refine nz6 ?_ | refine nz32 ?_ | refine And.intro (by assumption) ?_))); (conv => whnf)
        refine ⟨fun h3 => ?_, fun h3 => ?_⟩
        · rw [e4] at h3
          (repeat ((conv => whnf); (first | refine zo0 ?_ | refine zo1 ?_ | refine br_z ?_ | refine br_o ?_ | refine br_zn ?_ | refine br_on ?_ | refine nz2 ?_ | refine nz6 ?_ | refine nz32 ?_ | refine And.intro (by assumption) ?_))); (conv => whnf)
          exact stay (by omega)
        · rw [e4] at h3
          (repeat ((conv => whnf); (first | refine zo0 ?_ | refine zo1 ?_ | refine br_z ?_ | refine br_o ?_ | refine br_zn ?_ | refine br_on ?_ | refine nz2 ?_ | refine nz6 ?_ | refine nz32 ?_ | refine And.intro (by assumption) ?_))); (conv => whnf)
          exact ⟨w, g, 1, Or.inl ⟨rfl, rfl⟩, hm, hc, hw, pull (by omega)⟩
    · rw [e1] at h1
      (repeat ((conv => whnf); (first | refine zo0 ?_ | refine zo1 ?_ | refine br_z ?_ | refine br_o ?_ | refine br_zn ?_ | refine br_on ?_ | refine nz2 ?_ | refine nz6 ?_ | refine nz32 ?_ | refine And.intro (by assumption) ?_))); (conv => whnf)
      refine ⟨fun h2 => ?_, fun h2 => ?_⟩
      · rw [a4, a5, e3] at h2
        (repeat ((conv => whnf); (first | refine zo0 ?_ | refine zo1 ?_ | refine br_z ?_ | refine br_o ?_ | refine br_zn ?_ | refine br_on ?_ | refine nz2 ?_ | refine nz6 ?_ | refine nz32 ?_ | refine And.intro (by assumption) ?_))); (conv => whnf)
        refine ⟨fun h2 => ?_, fun h3 => ?_⟩
        · (repeat ((conv => whnf); (first | refine zo0 ?_ | refine zo1 ?_ | refine br_z ?_ | refine br_o ?_ | refine br_zn ?_ | refine br_on ?_ | refine nz2 ?_ | refine nz6 ?_ | refine nz32 ?_ | refine And.intro (by assumption) ?_))); (conv => whnf)
          exact stay (by omega)
        · rw [e2] at h3
          omega
      · rw [a4, a5, e3] at h2
        (repeat ((conv => whnf); (first | refine zo0 ?_ | refine zo1 ?_ | refine br_z ?_ | refine br_o ?_ | refine br_zn ?_ | refine br_on ?_ | refine nz2 ?_ | refine nz6 ?_ | refine nz32 ?_ | refine And.intro (by assumption) ?_))); (conv => whnf)
        refine ⟨fun h2 => ?_, fun h3 => ?_⟩
        · (repeat ((conv => whnf); (first | refine zo0 ?_ | refine zo1 ?_ | refine br_z ?_ | refine br_o ?_ | refine br_zn ?_ | refine br_on ?_ | refine nz2 ?_ | refine nz6 ?_ | refine nz32 ?_ | refine And.intro (by assumption) ?_))); (conv => whnf)
          exact ⟨w, g, 1, Or.inl ⟨rfl, rfl⟩, hm, hc, hw, pull (by omega)⟩
        · rw [e2] at h3
          omega
  · exact absurd h id
theorem clW_drive (l : Launch) : ∀ (a : Nat) (ins : Instr) (b dd : Nat), csW_drive[a]? = some (ins, b, dd) → am_Call l yW_drive.cls 2 ins b dd (fnW_drive a) := by
  intro a ins b dd h
  match a, h with
  | 0, h => cases h; exact am_callAbs (am_m3 (i := 78) rfl rfl) (wcJ_abs) (wtJ_abs) inJM (by decide)
  | 1, h => cases h; exact am_callV (T := F_9) (N := 17) (okW_pullCart l) wcW_pullCart (am_m3 (i := 38) rfl rfl) wiW_pullCart wsW_pullCart inW rfl (by decide) (by decide +kernel) (by decide) (by decide)
  | k + 2, h => simp [csW_drive] at h
theorem okW_drive (l : Launch) : am_Ok l yW_drive prog_11_method_12_code 5 none 2 spW_drive := am_ok_of (by decide +kernel) flW_ok kiW_ok klW_ok ckW_drive (clW_drive l) wpW_drive
def fnW_begin : Nat → am_Sp := fun a => match a with
  | 0 => spJ_fill
  | 1 => am_copy
  | _ => am_no
theorem mfW_begin : ∀ a, am_mono (fnW_begin a) := fun a => match a with
  | 0 => moJ_fill
  | 1 => am_copy_mono
  | _ + 2 => am_no_mono
def spW_begin : am_Sp := fun as D L K => match as with
  | [.ref 22, .ref kp] => ∃ P : mw_T, (kp = 14 ∨ kp = 18) ∧ px D kp P ∧ ∀ D', fr 22 25 D D' → wx D' (mw_w0 P) (D 22 11) → K none D' L
  | _ => False
theorem moW_begin : am_mono spW_begin := by
  intro as D L K K' hK h
  unfold spW_begin at h ⊢
  split at h
  · obtain ⟨P, h1, h2, h3⟩ := h
    exact ⟨P, h1, h2, fun D' q1 q2 => hK _ _ _ (h3 D' q1 q2)⟩
  · exact h
theorem wpW_begin : ∀ (as : List Value) (D : am_D) (L : am_L) (K : am_K), spW_begin as D L K → am_fit 2 as = true ∧ am_Wp false 0 cdW_begin fnW_begin K 0 (am_lo 2 as) [] D L := by
  intro as D L K h
  unfold spW_begin at h
  split at h
  · obtain ⟨P, hkp, ⟨p1, p2, p3, p4, p5, p6⟩, hK⟩ := h
    rcases hkp with rfl | rfl
    all_goals
      refine ⟨rfl, am_Wp_bl mfW_begin [] 60 _ _ _ _ _ ?_⟩
      conv => whnf
      refine ⟨rfl, by decide +kernel, ?_⟩
      conv => whnf
      refine ⟨rfl, by decide +kernel, ?_⟩
      conv => whnf
      refine ⟨⟨rfl, rfl, by decide, by decide, by decide, by decide +kernel, by decide +kernel⟩, ?_⟩
      (repeat ((conv => whnf); (first | refine zo0 ?_ | refine zo1 ?_ | refine br_z ?_ | refine br_o ?_ | refine br_zn ?_ | refine br_on ?_ | refine nz2 ?_ | refine nz6 ?_ | refine nz32 ?_ | refine And.intro (by assumption) ?_))); (conv => whnf)
      refine hK _ (by repeat (first | exact fr_rf | refine fr_up (by decide) (by decide) ?_ | refine fr_upA (by decide) (by decide) ?_)) ?_
      refine ⟨fun d hd => ?_, ?_⟩
      · have e1 := (p5 d hd).2
        refine ⟨?_, ?_, ?_⟩ <;> simp [am_up, am_upA, upd, va_cpy, mw_w0, ln_23, ln_24, cl0, cl12, hd, e1, nI_0]
      · refine ⟨?_, ?_, ?_, ?_, ?_, ?_, ?_, ?_, ?_, ?_, ?_, ?_⟩ <;> simp [am_up, am_upA, upd, mw_w0, p4, nI_0]
  · exact absurd h id
theorem clW_begin (l : Launch) : ∀ (a : Nat) (ins : Instr) (b dd : Nat), csW_begin[a]? = some (ins, b, dd) → am_Call l yW_begin.cls 1 ins b dd (fnW_begin a) := by
  intro a ins b dd h
  match a, h with
  | 0, h => cases h; exact am_callS (okJ_fill l) wcJ_fill (am_m3 (i := 30) rfl rfl) wtJ_fill inJA (by decide +kernel) (by decide) (by decide)
  | 1, h => cases h; exact am_callCopy (am_m3 (i := 31) rfl rfl) (am_m3 (i := 33) rfl rfl) (am_m3 (i := 32) rfl rfl) (am_m1 (i := 14) rfl rfl) (by decide)
  | k + 2, h => simp [csW_begin] at h
theorem okW_begin (l : Launch) : am_Ok l yW_begin prog_11_method_3_code 2 none 1 spW_begin := am_ok_of (by decide +kernel) flW_ok kiW_ok klW_ok ckW_begin (clW_begin l) wpW_begin
