/-! who lacks -/
def mw_lk (P w : mw_T) : Nat → Int32
  | 0 => 0
  | k + 1 => if w 1 k < P 1 k then mw_lk P w k ||| ((1 : Int32) <<< (nI k &&& 31)) else mw_lk P w k
def mw_ns (P w : mw_T) : Nat → Nat
  | 0 => 0
  | k + 1 => if w 1 k < P 1 k then mw_ns P w k + 1 else mw_ns P w k
def mw_mk (P w : mw_T) : Nat → Nat
  | 0 => 0
  | k + 1 => if w 1 k < P 1 k then mw_mk P w k + 2 ^ k else mw_mk P w k
def mw_pc : Nat → Nat → Nat
  | 0, _ => 0
  | k + 1, m => mw_pc k m + m / 2 ^ k % 2
theorem mw_mk_lt (P w : mw_T) : ∀ k, mw_mk P w k < 2 ^ k
  | 0 => by simp [mw_mk]
  | k + 1 => by
    have := mw_mk_lt P w k
    simp only [mw_mk]
    split <;> omega
theorem lk_or : ∀ k, k < 12 → ∀ m, m < 2 ^ k → nI m ||| ((1 : Int32) <<< (nI k &&& 31)) = nI (m + 2 ^ k) := by decide +kernel
theorem mw_lk_mk (P w : mw_T) : ∀ k, k ≤ 12 → mw_lk P w k = nI (mw_mk P w k)
  | 0, _ => rfl
  | k + 1, h => by
    have ih := mw_lk_mk P w k (by omega)
    simp only [mw_lk, mw_mk]
    split
    · rw [ih, lk_or k (by omega) _ (mw_mk_lt P w k)]
    · exact ih
theorem mw_pc_add (j k m : Nat) (h : j ≤ k) : mw_pc j (m + 2 ^ k) = mw_pc j m := by
  induction j with
  | zero => rfl
  | succ j ih =>
    simp only [mw_pc]
    rw [ih (by omega)]
    have e : 2 ^ k = 2 ^ j * (2 * 2 ^ (k - j - 1)) := by
      rw [← Nat.pow_succ', ← Nat.pow_add]
      congr 1
      omega
    rw [e, Nat.add_mul_div_left _ _ (Nat.two_pow_pos j), Nat.add_mul_mod_self_left]
theorem mw_pc_big (k m : Nat) (h : m < 2 ^ k) : mw_pc (k + 1) m = mw_pc k m := by
  simp only [mw_pc]
  rw [Nat.div_eq_of_lt h, Nat.zero_mod, Nat.add_zero]
theorem mw_pc_mk (P w : mw_T) : ∀ k, mw_pc k (mw_mk P w k) = mw_ns P w k
  | 0 => rfl
  | k + 1 => by
    have ih := mw_pc_mk P w k
    have hl := mw_mk_lt P w k
    simp only [mw_mk, mw_ns]
    split
    · simp only [mw_pc]
      rw [mw_pc_add k k _ (Nat.le_refl k), ih, Nat.add_div_right _ (Nat.two_pow_pos k), Nat.div_eq_of_lt hl]
    · rw [mw_pc_big k _ hl, ih]
theorem bc_64 : ∀ a, a < 64 → ∀ b, b < 64 → bcnt (nI (64 * a + b)) = nI (mw_pc 12 (64 * a + b)) := by decide +kernel
theorem bc_all (m : Nat) (h : m < 4096) : bcnt (nI m) = nI (mw_pc 12 m) := by
  have := bc_64 (m / 64) (by omega) (m % 64) (by omega)
  rw [show 64 * (m / 64) + m % 64 = m by omega] at this
  exact this
theorem bcnt_lk (P w : mw_T) : bcnt (mw_lk P w 12) = nI (mw_ns P w 12) := by
  rw [mw_lk_mk P w 12 (Nat.le_refl 12), bc_all _ (mw_mk_lt P w 12), mw_pc_mk]
theorem mw_ns_le (P w : mw_T) : ∀ k, mw_ns P w k ≤ k
  | 0 => Nat.le_refl 0
  | k + 1 => by
    have := mw_ns_le P w k
    simp only [mw_ns]
    split <;> omega
def fnW_lacking : Nat → am_Sp := fun _ => am_no
theorem mfW_lacking : ∀ a, am_mono (fnW_lacking a) := fun _ => am_no_mono
def spW_lacking : am_Sp := fun as D L K => match as with
  | [.ref 22, .ref kp] => ∃ (P w : mw_T) (g : Int32) (t : Nat), (kp = 14 ∨ kp = 18) ∧ mw_pok P ∧ mw_ok P t w ∧ px D kp P ∧ wx D w g ∧ K (some (.int (mw_lk P w 12))) D L
  | _ => False
theorem moW_lacking : am_mono spW_lacking := by
  intro as D L K K' hK h
  unfold spW_lacking at h ⊢
  split at h
  · obtain ⟨P, w, g, t, h1, h2, h3, h4, h5, h6⟩ := h
    exact ⟨P, w, g, t, h1, h2, h3, h4, h5, hK _ _ _ h6⟩
  · exact h
theorem wpW_lacking : ∀ (as : List Value) (D : am_D) (L : am_L) (K : am_K), spW_lacking as D L K → am_fit 4 as = true ∧ am_Wp false 0 cdW_lacking fnW_lacking K 0 (am_lo 4 as) [] D L := by
  intro as D L K h
  unfold spW_lacking at h
  split at h
  · obtain ⟨P, w, g, t, hkp, hP, hO, hpx, hw, hK⟩ := h
    obtain ⟨p1, p2, p3, p4, p5, p6⟩ := hpx
    rcases hkp with rfl | rfl
    · have loop : ∀ (m i : Nat), i + m = 12 → am_Wp false 0 cdW_lacking fnW_lacking K 4 [some (.ref 22), some (.ref 14), some (.int (mw_lk P w i)), some (.int (nI i))] [] D L := by
        intro m
        induction m with
        | zero =>
          intro i hi
          refine am_Wp_bl mfW_lacking [4] 30 _ _ _ _ _ ?_
          (repeat ((conv => whnf); (first | refine zo0 ?_ | refine zo1 ?_ | refine br_z ?_ | refine br_o ?_ | refine br_zn ?_ | refine br_on ?_ | refine nz2 ?_ | refine nz6 ?_ | refine nz32 ?_ | refine And.intro (by assumption) ?_))); (conv => whnf)
          refine ⟨fun h1 => ?_, fun h1 => absurd (nI_le (a := 12) (by omega) (by omega)) h1⟩
          (repeat ((conv => whnf); (first | refine zo0 ?_ | refine zo1 ?_ | refine br_z ?_ | refine br_o ?_ | refine br_zn ?_ | refine br_on ?_ | refine nz2 ?_ | refine nz6 ?_ | refine nz32 ?_ | refine And.intro (by assumption) ?_))); (conv => whnf)
          rw [show i = 12 by omega]
          exact hK
        | succ m ih =>
          intro i hi
          have ec : (nI i).toNatClampNeg = i := nI_clamp (by omega)
          have hin : vp_in (nI i) 12 := vp_in_nI (by omega) (by decide)
          have x1 := (hw.1 i (by omega)).1
          have x4 := (p5 i (by omega)).1
          have b1 := hO.2.2.2.2.2.2.2.2 i (by omega)
          have b2 := hP.2.2.2.2.2.1 i (by omega)
          refine am_Wp_bl mfW_lacking [4] 40 _ _ _ _ _ ?_
          (repeat ((conv => whnf); (first | refine zo0 ?_ | refine zo1 ?_ | refine br_z ?_ | refine br_o ?_ | refine br_zn ?_ | refine br_on ?_ | refine nz2 ?_ | refine nz6 ?_ | refine nz32 ?_ | refine And.intro (by assumption) ?_))); (conv => whnf)
          refine ⟨fun h1 => absurd h1 (nI_ge (b := 12) (by omega) (by omega)), fun h1 => ?_⟩
          (repeat ((conv => whnf); (first | refine zo0 ?_ | refine zo1 ?_ | refine br_z ?_ | refine br_o ?_ | refine br_zn ?_ | refine br_on ?_ | refine nz2 ?_ | refine nz6 ?_ | refine nz32 ?_ | refine And.intro (by assumption) ?_))); (conv => whnf)
          refine ⟨fun h2 => ?_, fun h2 => ?_⟩
          · rw [ec, x4, x1, nI_leI (by omega) (by omega)] at h2
            (repeat ((conv => whnf); (first | refine zo0 ?_ | refine zo1 ?_ | refine br_z ?_ | refine br_o ?_ | refine br_zn ?_ | refine br_on ?_ | refine nz2 ?_ | refine nz6 ?_ | refine nz32 ?_ | refine And.intro (by assumption) ?_))); (conv => whnf)
            have e := ih (i + 1) (by omega)
            rw [← nI_1, mw_lk, if_neg (by omega)] at e
            exact e
          · rw [ec, x4, x1, nI_leI (by omega) (by omega)] at h2
            (repeat ((conv => whnf); (first | refine zo0 ?_ | refine zo1 ?_ | refine br_z ?_ | refine br_o ?_ | refine br_zn ?_ | refine br_on ?_ | refine nz2 ?_ | refine nz6 ?_ | refine nz32 ?_ | refine And.intro (by assumption) ?_))); (conv => whnf)
            have e := ih (i + 1) (by omega)
            rw [← nI_1, mw_lk, if_pos (by omega)] at e
            exact e
      refine ⟨rfl, am_Wp_bl mfW_lacking [4] 20 _ _ _ _ _ ?_⟩
      (repeat ((conv => whnf); (first | refine zo0 ?_ | refine zo1 ?_ | refine br_z ?_ | refine br_o ?_ | refine br_zn ?_ | refine br_on ?_ | refine nz2 ?_ | refine nz6 ?_ | refine nz32 ?_ | refine And.intro (by assumption) ?_))); (conv => whnf)
      exact loop 12 0 (by omega)
    · have loop : ∀ (m i : Nat), i + m = 12 → am_Wp false 0 cdW_lacking fnW_lacking K 4 [some (.ref 22), some (.ref 18), some (.int (mw_lk P w i)), some (.int (nI i))] [] D L := by
        intro m
        induction m with
        | zero =>
          intro i hi
          refine am_Wp_bl mfW_lacking [4] 30 _ _ _ _ _ ?_
          (repeat ((conv => whnf); (first | refine zo0 ?_ | refine zo1 ?_ | refine br_z ?_ | refine br_o ?_ | refine br_zn ?_ | refine br_on ?_ | refine nz2 ?_ | refine nz6 ?_ | refine nz32 ?_ | refine And.intro (by assumption) ?_))); (conv => whnf)
          refine ⟨fun h1 => ?_, fun h1 => absurd (nI_le (a := 12) (by omega) (by omega)) h1⟩
          (repeat ((conv => whnf); (first | refine zo0 ?_ | refine zo1 ?_ | refine br_z ?_ | refine br_o ?_ | refine br_zn ?_ | refine br_on ?_ | refine nz2 ?_ | refine nz6 ?_ | refine nz32 ?_ | refine And.intro (by assumption) ?_))); (conv => whnf)
          rw [show i = 12 by omega]
          exact hK
        | succ m ih =>
          intro i hi
          have ec : (nI i).toNatClampNeg = i := nI_clamp (by omega)
          have hin : vp_in (nI i) 12 := vp_in_nI (by omega) (by decide)
          have x1 := (hw.1 i (by omega)).1
          have x4 := (p5 i (by omega)).1
          have b1 := hO.2.2.2.2.2.2.2.2 i (by omega)
          have b2 := hP.2.2.2.2.2.1 i (by omega)
          refine am_Wp_bl mfW_lacking [4] 40 _ _ _ _ _ ?_
          (repeat ((conv => whnf); (first | refine zo0 ?_ | refine zo1 ?_ | refine br_z ?_ | refine br_o ?_ | refine br_zn ?_ | refine br_on ?_ | refine nz2 ?_ | refine nz6 ?_ | refine nz32 ?_ | refine And.intro (by assumption) ?_))); (conv => whnf)
          refine ⟨fun h1 => absurd h1 (nI_ge (b := 12) (by omega) (by omega)), fun h1 => ?_⟩
          (repeat ((conv => whnf); (first | refine zo0 ?_ | refine zo1 ?_ | refine br_z ?_ | refine br_o ?_ | refine br_zn ?_ | refine br_on ?_ | refine nz2 ?_ | refine nz6 ?_ | refine nz32 ?_ | refine And.intro (by assumption) ?_))); (conv => whnf)
          refine ⟨fun h2 => ?_, fun h2 => ?_⟩
          · rw [ec, x4, x1, nI_leI (by omega) (by omega)] at h2
            (repeat ((conv => whnf); (first | refine zo0 ?_ | refine zo1 ?_ | refine br_z ?_ | refine br_o ?_ | refine br_zn ?_ | refine br_on ?_ | refine nz2 ?_ | refine nz6 ?_ | refine nz32 ?_ | refine And.intro (by assumption) ?_))); (conv => whnf)
            have e := ih (i + 1) (by omega)
            rw [← nI_1, mw_lk, if_neg (by omega)] at e
            exact e
          · rw [ec, x4, x1, nI_leI (by omega) (by omega)] at h2
            (repeat ((conv => whnf); (first | refine zo0 ?_ | refine zo1 ?_ | refine br_z ?_ | refine br_o ?_ | refine br_zn ?_ | refine br_on ?_ | refine nz2 ?_ | refine nz6 ?_ | refine nz32 ?_ | refine And.intro (by assumption) ?_))); (conv => whnf)
            have e := ih (i + 1) (by omega)
            rw [← nI_1, mw_lk, if_pos (by omega)] at e
            exact e
      refine ⟨rfl, am_Wp_bl mfW_lacking [4] 20 _ _ _ _ _ ?_⟩
      (repeat ((conv => whnf); (first | refine zo0 ?_ | refine zo1 ?_ | refine br_z ?_ | refine br_o ?_ | refine br_zn ?_ | refine br_on ?_ | refine nz2 ?_ | refine nz6 ?_ | refine nz32 ?_ | refine And.intro (by assumption) ?_))); (conv => whnf)
      exact loop 12 0 (by omega)
  · exact absurd h id
theorem clW_lacking (l : Launch) : ∀ (a : Nat) (ins : Instr) (b dd : Nat), csW_lacking[a]? = some (ins, b, dd) → am_Call l yW_lacking.cls 0 ins b dd (fnW_lacking a) := by
  intro a ins b dd h
  match a, h with
  | k + 0, h => simp [csW_lacking] at h
theorem okW_lacking (l : Launch) : am_Ok l yW_lacking prog_11_method_13_code 4 (some .int) 0 spW_lacking := am_ok_of (by decide +kernel) flW_ok kiW_ok klW_ok ckW_lacking (clW_lacking l) wpW_lacking
def fnW_howManyLack : Nat → am_Sp := fun a => match a with
  | 0 => spW_lacking
  | 1 => spJ_bitCount
  | _ => am_no
theorem mfW_howManyLack : ∀ a, am_mono (fnW_howManyLack a) := fun a => match a with
  | 0 => moW_lacking
  | 1 => moJ_bitCount
  | _ + 2 => am_no_mono
def spW_howManyLack : am_Sp := fun as D L K => match as with
  | [.ref 22, .ref kp] => ∃ (P w : mw_T) (g : Int32) (t : Nat), (kp = 14 ∨ kp = 18) ∧ mw_pok P ∧ mw_ok P t w ∧ px D kp P ∧ wx D w g ∧ K (some (.int (nI (mw_ns P w 12)))) D L
  | _ => False
theorem moW_howManyLack : am_mono spW_howManyLack := by
  intro as D L K K' hK h
  unfold spW_howManyLack at h ⊢
  split at h
  · obtain ⟨P, w, g, t, h1, h2, h3, h4, h5, h6⟩ := h
    exact ⟨P, w, g, t, h1, h2, h3, h4, h5, hK _ _ _ h6⟩
  · exact h
theorem wpW_howManyLack : ∀ (as : List Value) (D : am_D) (L : am_L) (K : am_K), spW_howManyLack as D L K → am_fit 2 as = true ∧ am_Wp false 0 cdW_howManyLack fnW_howManyLack K 0 (am_lo 2 as) [] D L := by
  intro as D L K h
  unfold spW_howManyLack at h
  split at h
  · obtain ⟨P, w, g, t, hkp, hP, hO, hpx, hw, hK⟩ := h
    rcases hkp with rfl | rfl
    all_goals
      refine ⟨rfl, am_Wp_bl mfW_howManyLack [] 20 _ _ _ _ _ ?_⟩
      (repeat ((conv => whnf); (first | refine zo0 ?_ | refine zo1 ?_ | refine br_z ?_ | refine br_o ?_ | refine br_zn ?_ | refine br_on ?_ | refine nz2 ?_ | refine nz6 ?_ | refine nz32 ?_ | refine And.intro (by assumption) ?_))); (conv => whnf)
      refine ⟨P, w, g, t, by first | exact Or.inl rfl | exact Or.inr rfl, hP, hO, hpx, hw, ?_⟩
      (repeat ((conv => whnf); (first | refine zo0 ?_ | refine zo1 ?_ | refine br_z ?_ | refine br_o ?_ | refine br_zn ?_ | refine br_on ?_ | refine nz2 ?_ | refine nz6 ?_ | refine nz32 ?_ | refine And.intro (by assumption) ?_))); (conv => whnf)
      rw [bcnt_lk]
      exact hK
  · exact absurd h id
theorem clW_howManyLack (l : Launch) : ∀ (a : Nat) (ins : Instr) (b dd : Nat), csW_howManyLack[a]? = some (ins, b, dd) → am_Call l yW_howManyLack.cls 1 ins b dd (fnW_howManyLack a) := by
  intro a ins b dd h
  match a, h with
  | 0, h => cases h; exact am_callV (T := F_9) (N := 17) (okW_lacking l) wcW_lacking (am_m3 (i := 131) rfl rfl) wiW_lacking wsW_lacking inW rfl (by decide) (by decide +kernel) (by decide) (by decide)
  | 1, h => cases h; exact am_callS (okJ_bitCount l) wcJ_bitCount (am_m3 (i := 132) rfl rfl) wtJ_bitCount inJI (by decide +kernel) (by decide) (by decide)
  | k + 2, h => simp [csW_howManyLack] at h
theorem okW_howManyLack (l : Launch) : am_Ok l yW_howManyLack prog_11_method_14_code 2 (some .int) 1 spW_howManyLack := am_ok_of (by decide +kernel) flW_ok kiW_ok klW_ok ckW_howManyLack (clW_howManyLack l) wpW_howManyLack
