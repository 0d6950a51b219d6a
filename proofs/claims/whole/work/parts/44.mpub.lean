/-! every question: what it answers -/
def cN (x : Int32) : Nat := x.toNatClampNeg
theorem cN_nI {n : Nat} (h : n < 2 ^ 31) : cN (nI n) = n := nI_clamp h
theorem rg_nI {x M : Int32} {n : Nat} (hM : M.toInt = n) (h : 0 ≤ x ∧ x ≤ M) : ∃ j : Nat, j ≤ n ∧ x = nI j := nI_of2 hM (Int32.not_lt.mpr h.1) h.2
def qFault (v : vs_T) (x : Int32) : Int32 := if 0 ≤ x ∧ x ≤ 2 then vfI (vflt v (cN x)) else -2
def qTold (v : vs_T) (x y : Int32) : Int32 := if 0 ≤ x ∧ x ≤ 11 then (if 0 ≤ y ∧ y ≤ 1 then nI (vpl v (cN y + 1) (cN x)) else -2) else -2
def qRound (v : vs_T) (x : Int32) : Int32 := if 0 ≤ x ∧ x ≤ 23 then (if cN x < vpl v 0 0 then nI (vpl v 3 (cN x)) else -1) else -2
def qAt (v : vs_T) (x y : Int32) : Int32 := if 0 ≤ x ∧ x ≤ 47 then (if 0 ≤ y ∧ y ≤ 4 then nI (va v (cN x + 1) 0 (atIx (cN y))) else -2) else -2
def qDoor (v : vs_T) (x y z : Int32) : Int32 := if 0 ≤ x ∧ x ≤ 47 then (if 0 ≤ y ∧ y ≤ 11 then (if 0 ≤ z ∧ z ≤ 2 then nI (va v (cN x + 1) (cN z + 1) (cN y)) else -2) else -2) else -2
def qDone (v : vs_T) (x : Int32) : Int32 := if 0 ≤ x ∧ x ≤ 11 then aDone v (cN x) else -2
def qSum (v : vs_T) (x : Int32) : Int32 := if 0 ≤ x ∧ x ≤ 4 then nI (va v 48 0 (suIx (cN x))) else -2
def qBetter (v : vs_T) (x : Int32) : Int32 := if 0 ≤ x ∧ x ≤ 2 then pI (aBetter v) (cN x) else -2
def qFit (v : vs_T) (x : Int32) : Int32 := if 0 ≤ x ∧ x ≤ 2 then pI (aFit v) (cN x) else -2
def qSwap (v : vs_T) (x : Int32) : Int32 := if 0 ≤ x ∧ x ≤ 3 then swI (aSwap v) (cN x) else -2
def qNumbers (v : vs_T) (x : Int32) : Int32 := if 0 ≤ x ∧ x ≤ 11 then aNumbers v (cN x) else -2
def qMorn (v : vs_T) (s x y : Int32) : Int32 := if 0 ≤ x ∧ x ≤ 12 then (if 0 ≤ y ∧ y ≤ 1 then aMorn v s (cN x) (cN y) else -2) else -2
def qChance (v : vs_T) (x y z : Int32) : Int64 := if 0 ≤ x ∧ x ≤ 16 then (if 0 ≤ y ∧ y ≤ 11 then (if 0 ≤ z ∧ z ≤ 1 then aCh v (cN x) (cN y) (cN z) else -9223372036854775806) else -9223372036854775806) else -9223372036854775806
def spI (o : Option (Nat × Nat × Nat)) (i : Nat) : Int32 := match o with
  | none => -1
  | some (n, a, b) => if i < n then (if i = 0 then nI a else nI b) else -1
def qSpare (v : vs_T) (x : Int32) : Int32 := if -1 ≤ x ∧ x ≤ 1 then (if x = -1 then spN (aSpare v) else spI (aSpare v) (cN x)) else -2
def qMight (v : vs_T) (x : Int32) : Int32 := if 0 ≤ x ∧ x ≤ 1 then (if x = 0 then aKinds v else aRooms v) else -2
def qLacks (v : vs_T) : Int32 := mw_lk (vpl v) (va v 48) 12
def qShort (v : vs_T) : Int32 := nI (mw_ns (vpl v) (va v 48) 12)
def qCount (v : vs_T) (x : Int32) : Int32 := if x = 0 then nI (vpl v 0 0) else if x = 1 then v 0 0 + v 0 1 + v 0 2 else if x = 2 then v 0 6 else if x = 3 then qShort v else if x = 4 then v 0 3 else if x = 5 then v 0 4 else if x = 6 then v 0 5 else if x = 7 then v 0 7 else if x = 8 then v 0 8 else -2
def fnM_no : Nat → am_Sp := fun _ => am_no
theorem mfM_no : ∀ a, am_mono (fnM_no a) := fun _ => am_no_mono
def spM_no : am_Sp := am_ini cdM_no fnM_no 8 1
theorem moM_no : am_mono spM_no := am_ini_mono mfM_no
theorem wpM_no : ∀ (as : List Value) (D : am_D) (L : am_L) (K : am_K), spM_no as D L K → am_fit 1 as = true ∧ am_Wp false 0 cdM_no fnM_no K 0 (am_lo 1 as) [] D L := am_ini_Wp mfM_no
theorem clM_no (l : Launch) : ∀ (a : Nat) (ins : Instr) (b dd : Nat), csM_no[a]? = some (ins, b, dd) → am_Call l yM_no.cls 0 ins b dd (fnM_no a) := by
  intro a ins b dd h
  match a, h with
  | k + 0, h => simp [csM_no] at h
theorem okM_no (l : Launch) : am_Ok l yM_no prog_13_method_5_code 1 (some .long) 0 spM_no := am_ok_of (by decide +kernel) flM_ok kiM_ok klM_ok ckM_no (clM_no l) wpM_no
def fnM_isText : Nat → am_Sp := fun a => match a with
  | 0 => spM_in
  | _ => am_no
theorem mfM_isText : ∀ a, am_mono (fnM_isText a) := fun a => match a with
  | 0 => moM_in
  | _ + 1 => am_no_mono
def spM_isText : am_Sp := am_ini cdM_isText fnM_isText 8 1
theorem moM_isText : am_mono spM_isText := am_ini_mono mfM_isText
theorem wpM_isText : ∀ (as : List Value) (D : am_D) (L : am_L) (K : am_K), spM_isText as D L K → am_fit 1 as = true ∧ am_Wp false 0 cdM_isText fnM_isText K 0 (am_lo 1 as) [] D L := am_ini_Wp mfM_isText
theorem clM_isText (l : Launch) : ∀ (a : Nat) (ins : Instr) (b dd : Nat), csM_isText[a]? = some (ins, b, dd) → am_Call l yM_isText.cls 1 ins b dd (fnM_isText a) := by
  intro a ins b dd h
  match a, h with
  | 0, h => cases h; exact am_callS (okM_in l) wcM_in (am_m5 (i := 29) rfl rfl) wtM_in inM (by decide +kernel) (by decide) (by decide)
  | k + 1, h => simp [csM_isText] at h
theorem okM_isText (l : Launch) : am_Ok l yM_isText prog_13_method_8_code 1 (some .boolean) 1 spM_isText := am_ok_of (by decide +kernel) flM_ok kiM_ok klM_ok ckM_isText (clM_isText l) wpM_isText
def fnM_isMinute : Nat → am_Sp := fun a => match a with
  | 0 => spM_in
  | _ => am_no
theorem mfM_isMinute : ∀ a, am_mono (fnM_isMinute a) := fun a => match a with
  | 0 => moM_in
  | _ + 1 => am_no_mono
def spM_isMinute : am_Sp := am_ini cdM_isMinute fnM_isMinute 8 1
theorem moM_isMinute : am_mono spM_isMinute := am_ini_mono mfM_isMinute
theorem wpM_isMinute : ∀ (as : List Value) (D : am_D) (L : am_L) (K : am_K), spM_isMinute as D L K → am_fit 1 as = true ∧ am_Wp false 0 cdM_isMinute fnM_isMinute K 0 (am_lo 1 as) [] D L := am_ini_Wp mfM_isMinute
theorem clM_isMinute (l : Launch) : ∀ (a : Nat) (ins : Instr) (b dd : Nat), csM_isMinute[a]? = some (ins, b, dd) → am_Call l yM_isMinute.cls 1 ins b dd (fnM_isMinute a) := by
  intro a ins b dd h
  match a, h with
  | 0, h => cases h; exact am_callS (okM_in l) wcM_in (am_m5 (i := 29) rfl rfl) wtM_in inM (by decide +kernel) (by decide) (by decide)
  | k + 1, h => simp [csM_isMinute] at h
theorem okM_isMinute (l : Launch) : am_Ok l yM_isMinute prog_13_method_9_code 1 (some .boolean) 1 spM_isMinute := am_ok_of (by decide +kernel) flM_ok kiM_ok klM_ok ckM_isMinute (clM_isMinute l) wpM_isMinute
def fnM_isDoor : Nat → am_Sp := fun a => match a with
  | 0 => spM_in
  | _ => am_no
theorem mfM_isDoor : ∀ a, am_mono (fnM_isDoor a) := fun a => match a with
  | 0 => moM_in
  | _ + 1 => am_no_mono
def spM_isDoor : am_Sp := am_ini cdM_isDoor fnM_isDoor 8 1
theorem moM_isDoor : am_mono spM_isDoor := am_ini_mono mfM_isDoor
theorem wpM_isDoor : ∀ (as : List Value) (D : am_D) (L : am_L) (K : am_K), spM_isDoor as D L K → am_fit 1 as = true ∧ am_Wp false 0 cdM_isDoor fnM_isDoor K 0 (am_lo 1 as) [] D L := am_ini_Wp mfM_isDoor
theorem clM_isDoor (l : Launch) : ∀ (a : Nat) (ins : Instr) (b dd : Nat), csM_isDoor[a]? = some (ins, b, dd) → am_Call l yM_isDoor.cls 1 ins b dd (fnM_isDoor a) := by
  intro a ins b dd h
  match a, h with
  | 0, h => cases h; exact am_callS (okM_in l) wcM_in (am_m5 (i := 29) rfl rfl) wtM_in inM (by decide +kernel) (by decide) (by decide)
  | k + 1, h => simp [csM_isDoor] at h
theorem okM_isDoor (l : Launch) : am_Ok l yM_isDoor prog_13_method_10_code 1 (some .boolean) 1 spM_isDoor := am_ok_of (by decide +kernel) flM_ok kiM_ok klM_ok ckM_isDoor (clM_isDoor l) wpM_isDoor
def fnM_isTwo : Nat → am_Sp := fun a => match a with
  | 0 => spM_in
  | _ => am_no
theorem mfM_isTwo : ∀ a, am_mono (fnM_isTwo a) := fun a => match a with
  | 0 => moM_in
  | _ + 1 => am_no_mono
def spM_isTwo : am_Sp := am_ini cdM_isTwo fnM_isTwo 8 1
theorem moM_isTwo : am_mono spM_isTwo := am_ini_mono mfM_isTwo
theorem wpM_isTwo : ∀ (as : List Value) (D : am_D) (L : am_L) (K : am_K), spM_isTwo as D L K → am_fit 1 as = true ∧ am_Wp false 0 cdM_isTwo fnM_isTwo K 0 (am_lo 1 as) [] D L := am_ini_Wp mfM_isTwo
theorem clM_isTwo (l : Launch) : ∀ (a : Nat) (ins : Instr) (b dd : Nat), csM_isTwo[a]? = some (ins, b, dd) → am_Call l yM_isTwo.cls 1 ins b dd (fnM_isTwo a) := by
  intro a ins b dd h
  match a, h with
  | 0, h => cases h; exact am_callS (okM_in l) wcM_in (am_m5 (i := 29) rfl rfl) wtM_in inM (by decide +kernel) (by decide) (by decide)
  | k + 1, h => simp [csM_isTwo] at h
theorem okM_isTwo (l : Launch) : am_Ok l yM_isTwo prog_13_method_11_code 1 (some .boolean) 1 spM_isTwo := am_ok_of (by decide +kernel) flM_ok kiM_ok klM_ok ckM_isTwo (clM_isTwo l) wpM_isTwo
def fnM_isThree : Nat → am_Sp := fun a => match a with
  | 0 => spM_in
  | _ => am_no
theorem mfM_isThree : ∀ a, am_mono (fnM_isThree a) := fun a => match a with
  | 0 => moM_in
  | _ + 1 => am_no_mono
def spM_isThree : am_Sp := am_ini cdM_isThree fnM_isThree 8 1
theorem moM_isThree : am_mono spM_isThree := am_ini_mono mfM_isThree
theorem wpM_isThree : ∀ (as : List Value) (D : am_D) (L : am_L) (K : am_K), spM_isThree as D L K → am_fit 1 as = true ∧ am_Wp false 0 cdM_isThree fnM_isThree K 0 (am_lo 1 as) [] D L := am_ini_Wp mfM_isThree
theorem clM_isThree (l : Launch) : ∀ (a : Nat) (ins : Instr) (b dd : Nat), csM_isThree[a]? = some (ins, b, dd) → am_Call l yM_isThree.cls 1 ins b dd (fnM_isThree a) := by
  intro a ins b dd h
  match a, h with
  | 0, h => cases h; exact am_callS (okM_in l) wcM_in (am_m5 (i := 29) rfl rfl) wtM_in inM (by decide +kernel) (by decide) (by decide)
  | k + 1, h => simp [csM_isThree] at h
theorem okM_isThree (l : Launch) : am_Ok l yM_isThree prog_13_method_12_code 1 (some .boolean) 1 spM_isThree := am_ok_of (by decide +kernel) flM_ok kiM_ok klM_ok ckM_isThree (clM_isThree l) wpM_isThree
def fnM_isSheet : Nat → am_Sp := fun a => match a with
  | 0 => spM_in
  | _ => am_no
theorem mfM_isSheet : ∀ a, am_mono (fnM_isSheet a) := fun a => match a with
  | 0 => moM_in
  | _ + 1 => am_no_mono
def spM_isSheet : am_Sp := am_ini cdM_isSheet fnM_isSheet 8 1
theorem moM_isSheet : am_mono spM_isSheet := am_ini_mono mfM_isSheet
theorem wpM_isSheet : ∀ (as : List Value) (D : am_D) (L : am_L) (K : am_K), spM_isSheet as D L K → am_fit 1 as = true ∧ am_Wp false 0 cdM_isSheet fnM_isSheet K 0 (am_lo 1 as) [] D L := am_ini_Wp mfM_isSheet
theorem clM_isSheet (l : Launch) : ∀ (a : Nat) (ins : Instr) (b dd : Nat), csM_isSheet[a]? = some (ins, b, dd) → am_Call l yM_isSheet.cls 1 ins b dd (fnM_isSheet a) := by
  intro a ins b dd h
  match a, h with
  | 0, h => cases h; exact am_callS (okM_in l) wcM_in (am_m5 (i := 29) rfl rfl) wtM_in inM (by decide +kernel) (by decide) (by decide)
  | k + 1, h => simp [csM_isSheet] at h
theorem okM_isSheet (l : Launch) : am_Ok l yM_isSheet prog_13_method_83_code 1 (some .boolean) 1 spM_isSheet := am_ok_of (by decide +kernel) flM_ok kiM_ok klM_ok ckM_isSheet (clM_isSheet l) wpM_isSheet
def fnM_meets : Nat → am_Sp := fun _ => am_no
theorem mfM_meets : ∀ a, am_mono (fnM_meets a) := fun _ => am_no_mono
def spM_meets : am_Sp := am_ini cdM_meets fnM_meets 10 2
theorem moM_meets : am_mono spM_meets := am_ini_mono mfM_meets
theorem wpM_meets : ∀ (as : List Value) (D : am_D) (L : am_L) (K : am_K), spM_meets as D L K → am_fit 2 as = true ∧ am_Wp false 0 cdM_meets fnM_meets K 0 (am_lo 2 as) [] D L := am_ini_Wp mfM_meets
theorem clM_meets (l : Launch) : ∀ (a : Nat) (ins : Instr) (b dd : Nat), csM_meets[a]? = some (ins, b, dd) → am_Call l yM_meets.cls 0 ins b dd (fnM_meets a) := by
  intro a ins b dd h
  match a, h with
  | k + 0, h => simp [csM_meets] at h
theorem okM_meets (l : Launch) : am_Ok l yM_meets prog_13_method_82_code 2 (some .int) 0 spM_meets := am_ok_of (by decide +kernel) flM_ok kiM_ok klM_ok ckM_meets (clM_meets l) wpM_meets
def fnM_fault : Nat → am_Sp := fun a => match a with
  | 0 => spM_isText
  | 1 => spM_faultOf
  | _ => am_no
theorem mfM_fault : ∀ a, am_mono (fnM_fault a) := fun a => match a with
  | 0 => moM_isText
  | 1 => moM_faultOf
  | _ + 2 => am_no_mono
def spM_fault : am_Sp := fun as D L K => match as with
  | [.ref 49, .int x] => ∃ v : vs_T, vok v ∧ im D v ∧ ∀ D', fq D D' → K (some (.int (qFault v x))) D' L
  | _ => False
theorem moM_fault : am_mono spM_fault := by
  intro as D L K K' hK h
  unfold spM_fault at h ⊢
  split at h
  · obtain ⟨z0, z1, z2, hz⟩ := h
    exact ⟨z0, z1, z2, fun D' q => hK _ _ _ (hz D' q)⟩
  · exact h
theorem wpM_fault : ∀ (as : List Value) (D : am_D) (L : am_L) (K : am_K), spM_fault as D L K → am_fit 2 as = true ∧ am_Wp false 0 cdM_fault fnM_fault K 0 (am_lo 2 as) [] D L := by
  intro as D L K h
  unfold spM_fault at h
  split at h
  · rename_i x
    obtain ⟨v, hv, hi, hK⟩ := h
    refine ⟨rfl, am_Wp_bl mfM_fault [] 29 _ _ _ _ _ ?_⟩
    (repeat ((conv => whnf); (first | refine zo0 ?_ | refine zo1 ?_ | refine br_z ?_ | refine br_o ?_ | refine br_zn ?_ | refine br_on ?_ | refine nz2 ?_ | refine nz6 ?_ | refine nz32 ?_ | refine And.intro (by assumption) ?_))); (conv => whnf)
    refine ⟨fun hx => ?_, fun hx => ?_⟩
    · (repeat ((conv => whnf); (first | refine zo0 ?_ | refine zo1 ?_ | refine br_z ?_ | refine br_o ?_ | refine br_zn ?_ | refine br_on ?_ | refine nz2 ?_ | refine nz6 ?_ | refine nz32 ?_ | refine And.intro (by assumption) ?_))); (conv => whnf)
      obtain ⟨a, ha, ea⟩ := rg_nI (n := 2) (by decide) hx
      refine ⟨v, a, ea, by omega, hv, hi, ?_⟩
      (repeat ((conv => whnf); (first | refine zo0 ?_ | refine zo1 ?_ | refine br_z ?_ | refine br_o ?_ | refine br_zn ?_ | refine br_on ?_ | refine nz2 ?_ | refine nz6 ?_ | refine nz32 ?_ | refine And.intro (by assumption) ?_))); (conv => whnf)
      have k := hK D fq_rf
      unfold qFault at k
      rw [if_pos hx] at k
      subst ea
      rw [cN_nI (show a < 2 ^ 31 by omega)] at k
      exact k
    · (repeat ((conv => whnf); (first | refine zo0 ?_ | refine zo1 ?_ | refine br_z ?_ | refine br_o ?_ | refine br_zn ?_ | refine br_on ?_ | refine nz2 ?_ | refine nz6 ?_ | refine nz32 ?_ | refine And.intro (by assumption) ?_))); (conv => whnf)
      have k := hK D fq_rf
      unfold qFault at k
      rw [if_neg hx] at k
      exact k
  · exact absurd h id
theorem clM_fault (l : Launch) : ∀ (a : Nat) (ins : Instr) (b dd : Nat), csM_fault[a]? = some (ins, b, dd) → am_Call l yM_fault.cls 2 ins b dd (fnM_fault a) := by
  intro a ins b dd h
  match a, h with
  | 0, h => cases h; exact am_callS (okM_isText l) wcM_isText (am_m5 (i := 26) rfl rfl) wtM_isText inM (by decide +kernel) (by decide) (by decide)
  | 1, h => cases h; exact am_callV (T := F_11) (N := 52) (okM_faultOf l) wcM_faultOf (am_m5 (i := 44) rfl rfl) wiM_faultOf wsM_faultOf inM rfl (by decide) (by decide +kernel) (by decide) (by decide)
  | k + 2, h => simp [csM_fault] at h
theorem okM_fault (l : Launch) : am_Ok l yM_fault prog_13_method_18_code 2 (some .int) 2 spM_fault := am_ok_of (by decide +kernel) flM_ok kiM_ok klM_ok ckM_fault (clM_fault l) wpM_fault
def fnM_told : Nat → am_Sp := fun a => match a with
  | 0 => spM_isDoor
  | 1 => spM_isTwo
  | 2 => spM_toldOf
  | _ => am_no
theorem mfM_told : ∀ a, am_mono (fnM_told a) := fun a => match a with
  | 0 => moM_isDoor
  | 1 => moM_isTwo
  | 2 => moM_toldOf
  | _ + 3 => am_no_mono
def spM_told : am_Sp := fun as D L K => match as with
  | [.ref 49, .int x, .int y] => ∃ v : vs_T, vok v ∧ im D v ∧ ∀ D', fq D D' → K (some (.int (qTold v x y))) D' L
  | _ => False
theorem moM_told : am_mono spM_told := by
  intro as D L K K' hK h
  unfold spM_told at h ⊢
  split at h
  · obtain ⟨z0, z1, z2, hz⟩ := h
    exact ⟨z0, z1, z2, fun D' q => hK _ _ _ (hz D' q)⟩
  · exact h
theorem wpM_told : ∀ (as : List Value) (D : am_D) (L : am_L) (K : am_K), spM_told as D L K → am_fit 3 as = true ∧ am_Wp false 0 cdM_told fnM_told K 0 (am_lo 3 as) [] D L := by
  intro as D L K h
  unfold spM_told at h
  split at h
  · rename_i x y
    obtain ⟨v, hv, hi, hK⟩ := h
    refine ⟨rfl, am_Wp_bl mfM_told [] 33 _ _ _ _ _ ?_⟩
    (repeat ((conv => whnf); (first | refine zo0 ?_ | refine zo1 ?_ | refine br_z ?_ | refine br_o ?_ | refine br_zn ?_ | refine br_on ?_ | refine nz2 ?_ | refine nz6 ?_ | refine nz32 ?_ | refine And.intro (by assumption) ?_))); (conv => whnf)
    refine ⟨fun hx => ?_, fun hx => ?_⟩
    · (repeat ((conv => whnf); (first | refine zo0 ?_ | refine zo1 ?_ | refine br_z ?_ | refine br_o ?_ | refine br_zn ?_ | refine br_on ?_ | refine nz2 ?_ | refine nz6 ?_ | refine nz32 ?_ | refine And.intro (by assumption) ?_))); (conv => whnf)
      refine ⟨fun hy => ?_, fun hy => ?_⟩
      · (repeat ((conv => whnf); (first | refine zo0 ?_ | refine zo1 ?_ | refine br_z ?_ | refine br_o ?_ | refine br_zn ?_ | refine br_on ?_ | refine nz2 ?_ | refine nz6 ?_ | refine nz32 ?_ | refine And.intro (by assumption) ?_))); (conv => whnf)
        obtain ⟨a, ha, ea⟩ := rg_nI (n := 11) (by decide) hx
        obtain ⟨b, hb, eb⟩ := rg_nI (n := 1) (by decide) hy
        refine ⟨v, a, b, hv, hi, ea, by omega, eb, by omega, fun D' f => ?_⟩
        (repeat ((conv => whnf); (first | refine zo0 ?_ | refine zo1 ?_ | refine br_z ?_ | refine br_o ?_ | refine br_zn ?_ | refine br_on ?_ | refine nz2 ?_ | refine nz6 ?_ | refine nz32 ?_ | refine And.intro (by assumption) ?_))); (conv => whnf)
        have k := hK _ f
        unfold qTold at k
        rw [if_pos hx, if_pos hy] at k
        subst ea
        subst eb
        rw [cN_nI (show a < 2 ^ 31 by omega), cN_nI (show b < 2 ^ 31 by omega)] at k
        exact k
      · (repeat ((conv => whnf); (first | refine zo0 ?_ | refine zo1 ?_ | refine br_z ?_ | refine br_o ?_ | refine br_zn ?_ | refine br_on ?_ | refine nz2 ?_ | refine nz6 ?_ | refine nz32 ?_ | refine And.intro (by assumption) ?_))); (conv => whnf)
        have k := hK D fq_rf
        unfold qTold at k
        rw [if_pos hx, if_neg hy] at k
        exact k
    · (repeat ((conv => whnf); (first | refine zo0 ?_ | refine zo1 ?_ | refine br_z ?_ | refine br_o ?_ | refine br_zn ?_ | refine br_on ?_ | refine nz2 ?_ | refine nz6 ?_ | refine nz32 ?_ | refine And.intro (by assumption) ?_))); (conv => whnf)
      have k := hK D fq_rf
      unfold qTold at k
      rw [if_neg hx] at k
      exact k
  · exact absurd h id
theorem clM_told (l : Launch) : ∀ (a : Nat) (ins : Instr) (b dd : Nat), csM_told[a]? = some (ins, b, dd) → am_Call l yM_told.cls 4 ins b dd (fnM_told a) := by
  intro a ins b dd h
  match a, h with
  | 0, h => cases h; exact am_callS (okM_isDoor l) wcM_isDoor (am_m5 (i := 52) rfl rfl) wtM_isDoor inM (by decide +kernel) (by decide) (by decide)
  | 1, h => cases h; exact am_callS (okM_isTwo l) wcM_isTwo (am_m5 (i := 55) rfl rfl) wtM_isTwo inM (by decide +kernel) (by decide) (by decide)
  | 2, h => cases h; exact am_callV (T := F_11) (N := 52) (okM_toldOf l) wcM_toldOf (am_m5 (i := 58) rfl rfl) wiM_toldOf wsM_toldOf inM rfl (by decide) (by decide +kernel) (by decide) (by decide)
  | k + 3, h => simp [csM_told] at h
theorem okM_told (l : Launch) : am_Ok l yM_told prog_13_method_20_code 3 (some .int) 4 spM_told := am_ok_of (by decide +kernel) flM_ok kiM_ok klM_ok ckM_told (clM_told l) wpM_told
def fnM_round : Nat → am_Sp := fun a => match a with
  | 0 => spM_in
  | 1 => spM_roundOf
  | _ => am_no
theorem mfM_round : ∀ a, am_mono (fnM_round a) := fun a => match a with
  | 0 => moM_in
  | 1 => moM_roundOf
  | _ + 2 => am_no_mono
def spM_round : am_Sp := fun as D L K => match as with
  | [.ref 49, .int x] => ∃ v : vs_T, vok v ∧ im D v ∧ ∀ D', fq D D' → K (some (.int (qRound v x))) D' L
  | _ => False
theorem moM_round : am_mono spM_round := by
  intro as D L K K' hK h
  unfold spM_round at h ⊢
  split at h
  · obtain ⟨z0, z1, z2, hz⟩ := h
    exact ⟨z0, z1, z2, fun D' q => hK _ _ _ (hz D' q)⟩
  · exact h
theorem wpM_round : ∀ (as : List Value) (D : am_D) (L : am_L) (K : am_K), spM_round as D L K → am_fit 2 as = true ∧ am_Wp false 0 cdM_round fnM_round K 0 (am_lo 2 as) [] D L := by
  intro as D L K h
  unfold spM_round at h
  split at h
  · rename_i x
    obtain ⟨v, hv, hi, hK⟩ := h
    refine ⟨rfl, am_Wp_bl mfM_round [] 31 _ _ _ _ _ ?_⟩
    (repeat ((conv => whnf); (first | refine zo0 ?_ | refine zo1 ?_ | refine br_z ?_ | refine br_o ?_ | refine br_zn ?_ | refine br_on ?_ | refine nz2 ?_ | refine nz6 ?_ | refine nz32 ?_ | refine And.intro (by assumption) ?_))); (conv => whnf)
    refine ⟨fun hx => ?_, fun hx => ?_⟩
    · (repeat ((conv => whnf); (first | refine zo0 ?_ | refine zo1 ?_ | refine br_z ?_ | refine br_o ?_ | refine br_zn ?_ | refine br_on ?_ | refine nz2 ?_ | refine nz6 ?_ | refine nz32 ?_ | refine And.intro (by assumption) ?_))); (conv => whnf)
      obtain ⟨a, ha, ea⟩ := rg_nI (n := 23) (by decide) hx
      refine ⟨v, a, hv, hi, ea, by omega, fun D' f => ?_⟩
      (repeat ((conv => whnf); (first | refine zo0 ?_ | refine zo1 ?_ | refine br_z ?_ | refine br_o ?_ | refine br_zn ?_ | refine br_on ?_ | refine nz2 ?_ | refine nz6 ?_ | refine nz32 ?_ | refine And.intro (by assumption) ?_))); (conv => whnf)
      have k := hK _ f
      unfold qRound at k
      rw [if_pos hx] at k
      subst ea
      rw [cN_nI (show a < 2 ^ 31 by omega)] at k
      exact k
    · (repeat ((conv => whnf); (first | refine zo0 ?_ | refine zo1 ?_ | refine br_z ?_ | refine br_o ?_ | refine br_zn ?_ | refine br_on ?_ | refine nz2 ?_ | refine nz6 ?_ | refine nz32 ?_ | refine And.intro (by assumption) ?_))); (conv => whnf)
      have k := hK D fq_rf
      unfold qRound at k
      rw [if_neg hx] at k
      exact k
  · exact absurd h id
theorem clM_round (l : Launch) : ∀ (a : Nat) (ins : Instr) (b dd : Nat), csM_round[a]? = some (ins, b, dd) → am_Call l yM_round.cls 4 ins b dd (fnM_round a) := by
  intro a ins b dd h
  match a, h with
  | 0, h => cases h; exact am_callS (okM_in l) wcM_in (am_m5 (i := 29) rfl rfl) wtM_in inM (by decide +kernel) (by decide) (by decide)
  | 1, h => cases h; exact am_callV (T := F_11) (N := 52) (okM_roundOf l) wcM_roundOf (am_m5 (i := 70) rfl rfl) wiM_roundOf wsM_roundOf inM rfl (by decide) (by decide +kernel) (by decide) (by decide)
  | k + 2, h => simp [csM_round] at h
theorem okM_round (l : Launch) : am_Ok l yM_round prog_13_method_22_code 2 (some .int) 4 spM_round := am_ok_of (by decide +kernel) flM_ok kiM_ok klM_ok ckM_round (clM_round l) wpM_round
def fnM_at : Nat → am_Sp := fun a => match a with
  | 0 => spM_isMinute
  | 1 => spM_in
  | 2 => spM_atOf
  | _ => am_no
theorem mfM_at : ∀ a, am_mono (fnM_at a) := fun a => match a with
  | 0 => moM_isMinute
  | 1 => moM_in
  | 2 => moM_atOf
  | _ + 3 => am_no_mono
def spM_at : am_Sp := fun as D L K => match as with
  | [.ref 49, .int x, .int y] => ∃ v : vs_T, vok v ∧ im D v ∧ ∀ D', fq D D' → K (some (.int (qAt v x y))) D' L
  | _ => False
theorem moM_at : am_mono spM_at := by
  intro as D L K K' hK h
  unfold spM_at at h ⊢
  split at h
  · obtain ⟨z0, z1, z2, hz⟩ := h
    exact ⟨z0, z1, z2, fun D' q => hK _ _ _ (hz D' q)⟩
  · exact h
theorem wpM_at : ∀ (as : List Value) (D : am_D) (L : am_L) (K : am_K), spM_at as D L K → am_fit 3 as = true ∧ am_Wp false 0 cdM_at fnM_at K 0 (am_lo 3 as) [] D L := by
  intro as D L K h
  unfold spM_at at h
  split at h
  · rename_i x y
    obtain ⟨v, hv, hi, hK⟩ := h
    refine ⟨rfl, am_Wp_bl mfM_at [] 35 _ _ _ _ _ ?_⟩
    (repeat ((conv => whnf); (first | refine zo0 ?_ | refine zo1 ?_ | refine br_z ?_ | refine br_o ?_ | refine br_zn ?_ | refine br_on ?_ | refine nz2 ?_ | refine nz6 ?_ | refine nz32 ?_ | refine And.intro (by assumption) ?_))); (conv => whnf)
    refine ⟨fun hx => ?_, fun hx => ?_⟩
    · (repeat ((conv => whnf); (first | refine zo0 ?_ | refine zo1 ?_ | refine br_z ?_ | refine br_o ?_ | refine br_zn ?_ | refine br_on ?_ | refine nz2 ?_ | refine nz6 ?_ | refine nz32 ?_ | refine And.intro (by assumption) ?_))); (conv => whnf)
      refine ⟨fun hy => ?_, fun hy => ?_⟩
      · (repeat ((conv => whnf); (first | refine zo0 ?_ | refine zo1 ?_ | refine br_z ?_ | refine br_o ?_ | refine br_zn ?_ | refine br_on ?_ | refine nz2 ?_ | refine nz6 ?_ | refine nz32 ?_ | refine And.intro (by assumption) ?_))); (conv => whnf)
        obtain ⟨a, ha, ea⟩ := rg_nI (n := 47) (by decide) hx
        obtain ⟨b, hb, eb⟩ := rg_nI (n := 4) (by decide) hy
        refine ⟨v, a, b, hv, hi, ea, by omega, eb, by omega, fun D' f => ?_⟩
        (repeat ((conv => whnf); (first | refine zo0 ?_ | refine zo1 ?_ | refine br_z ?_ | refine br_o ?_ | refine br_zn ?_ | refine br_on ?_ | refine nz2 ?_ | refine nz6 ?_ | refine nz32 ?_ | refine And.intro (by assumption) ?_))); (conv => whnf)
        have k := hK _ f
        unfold qAt at k
        rw [if_pos hx, if_pos hy] at k
        subst ea
        subst eb
        rw [cN_nI (show a < 2 ^ 31 by omega), cN_nI (show b < 2 ^ 31 by omega)] at k
        exact k
      · (repeat ((conv => whnf); (first | refine zo0 ?_ | refine zo1 ?_ | refine br_z ?_ | refine br_o ?_ | refine br_zn ?_ | refine br_on ?_ | refine nz2 ?_ | refine nz6 ?_ | refine nz32 ?_ | refine And.intro (by assumption) ?_))); (conv => whnf)
        have k := hK D fq_rf
        unfold qAt at k
        rw [if_pos hx, if_neg hy] at k
        exact k
    · (repeat ((conv => whnf); (first | refine zo0 ?_ | refine zo1 ?_ | refine br_z ?_ | refine br_o ?_ | refine br_zn ?_ | refine br_on ?_ | refine nz2 ?_ | refine nz6 ?_ | refine nz32 ?_ | refine And.intro (by assumption) ?_))); (conv => whnf)
      have k := hK D fq_rf
      unfold qAt at k
      rw [if_neg hx] at k
      exact k
  · exact absurd h id
theorem clM_at (l : Launch) : ∀ (a : Nat) (ins : Instr) (b dd : Nat), csM_at[a]? = some (ins, b, dd) → am_Call l yM_at.cls 8 ins b dd (fnM_at a) := by
  intro a ins b dd h
  match a, h with
  | 0, h => cases h; exact am_callS (okM_isMinute l) wcM_isMinute (am_m5 (i := 85) rfl rfl) wtM_isMinute inM (by decide +kernel) (by decide) (by decide)
  | 1, h => cases h; exact am_callS (okM_in l) wcM_in (am_m5 (i := 29) rfl rfl) wtM_in inM (by decide +kernel) (by decide) (by decide)
  | 2, h => cases h; exact am_callV (T := F_11) (N := 52) (okM_atOf l) wcM_atOf (am_m5 (i := 108) rfl rfl) wiM_atOf wsM_atOf inM rfl (by decide) (by decide +kernel) (by decide) (by decide)
  | k + 3, h => simp [csM_at] at h
theorem okM_at (l : Launch) : am_Ok l yM_at prog_13_method_41_code 3 (some .int) 8 spM_at := am_ok_of (by decide +kernel) flM_ok kiM_ok klM_ok ckM_at (clM_at l) wpM_at
def fnM_door : Nat → am_Sp := fun a => match a with
  | 0 => spM_isMinute
  | 1 => spM_isDoor
  | 2 => spM_isThree
  | 3 => spM_doorOf
  | _ => am_no
theorem mfM_door : ∀ a, am_mono (fnM_door a) := fun a => match a with
  | 0 => moM_isMinute
  | 1 => moM_isDoor
  | 2 => moM_isThree
  | 3 => moM_doorOf
  | _ + 4 => am_no_mono
def spM_door : am_Sp := fun as D L K => match as with
  | [.ref 49, .int x, .int y, .int z] => ∃ v : vs_T, vok v ∧ im D v ∧ ∀ D', fq D D' → K (some (.int (qDoor v x y z))) D' L
  | _ => False
theorem moM_door : am_mono spM_door := by
  intro as D L K K' hK h
  unfold spM_door at h ⊢
  split at h
  · obtain ⟨z0, z1, z2, hz⟩ := h
    exact ⟨z0, z1, z2, fun D' q => hK _ _ _ (hz D' q)⟩
  · exact h
theorem wpM_door : ∀ (as : List Value) (D : am_D) (L : am_L) (K : am_K), spM_door as D L K → am_fit 4 as = true ∧ am_Wp false 0 cdM_door fnM_door K 0 (am_lo 4 as) [] D L := by
  intro as D L K h
  unfold spM_door at h
  split at h
  · rename_i x y z
    obtain ⟨v, hv, hi, hK⟩ := h
    refine ⟨rfl, am_Wp_bl mfM_door [] 37 _ _ _ _ _ ?_⟩
    (repeat ((conv => whnf); (first | refine zo0 ?_ | refine zo1 ?_ | refine br_z ?_ | refine br_o ?_ | refine br_zn ?_ | refine br_on ?_ | refine nz2 ?_ | refine nz6 ?_ | refine nz32 ?_ | refine And.intro (by assumption) ?_))); (conv => whnf)
    refine ⟨fun hx => ?_, fun hx => ?_⟩
    · (repeat ((conv => whnf); (first | refine zo0 ?_ | refine zo1 ?_ | refine br_z ?_ | refine br_o ?_ | refine br_zn ?_ | refine br_on ?_ | refine nz2 ?_ | refine nz6 ?_ | refine nz32 ?_ | refine And.intro (by assumption) ?_))); (conv => whnf)
      refine ⟨fun hy => ?_, fun hy => ?_⟩
      · (repeat ((conv => whnf); (first | refine zo0 ?_ | refine zo1 ?_ | refine br_z ?_ | refine br_o ?_ | refine br_zn ?_ | refine br_on ?_ | refine nz2 ?_ | refine nz6 ?_ | refine nz32 ?_ | refine And.intro (by assumption) ?_))); (conv => whnf)
        refine ⟨fun hz => ?_, fun hz => ?_⟩
        · (repeat ((conv => whnf); (first | refine zo0 ?_ | refine zo1 ?_ | refine br_z ?_ | refine br_o ?_ | refine br_zn ?_ | refine br_on ?_ | refine nz2 ?_ | refine nz6 ?_ | refine nz32 ?_ | refine And.intro (by assumption) ?_))); (conv => whnf)
          obtain ⟨a, ha, ea⟩ := rg_nI (n := 47) (by decide) hx
          obtain ⟨b, hb, eb⟩ := rg_nI (n := 11) (by decide) hy
          obtain ⟨c, hc, ec⟩ := rg_nI (n := 2) (by decide) hz
          refine ⟨v, a, b, c, hv, hi, ea, by omega, eb, by omega, ec, by omega, fun D' f => ?_⟩
          (repeat ((conv => whnf); (first | refine zo0 ?_ | refine zo1 ?_ | refine br_z ?_ | refine br_o ?_ | refine br_zn ?_ | refine br_on ?_ | refine nz2 ?_ | refine nz6 ?_ | refine nz32 ?_ | refine And.intro (by assumption) ?_))); (conv => whnf)
          have k := hK _ f
          unfold qDoor at k
          rw [if_pos hx, if_pos hy, if_pos hz] at k
          subst ea
          subst eb
          subst ec
          rw [cN_nI (show a < 2 ^ 31 by omega), cN_nI (show b < 2 ^ 31 by omega), cN_nI (show c < 2 ^ 31 by omega)] at k
          exact k
        · (repeat ((conv => whnf); (first | refine zo0 ?_ | refine zo1 ?_ | refine br_z ?_ | refine br_o ?_ | refine br_zn ?_ | refine br_on ?_ | refine nz2 ?_ | refine nz6 ?_ | refine nz32 ?_ | refine And.intro (by assumption) ?_))); (conv => whnf)
          have k := hK D fq_rf
          unfold qDoor at k
          rw [if_pos hx, if_pos hy, if_neg hz] at k
          exact k
      · (repeat ((conv => whnf); (first | refine zo0 ?_ | refine zo1 ?_ | refine br_z ?_ | refine br_o ?_ | refine br_zn ?_ | refine br_on ?_ | refine nz2 ?_ | refine nz6 ?_ | refine nz32 ?_ | refine And.intro (by assumption) ?_))); (conv => whnf)
        have k := hK D fq_rf
        unfold qDoor at k
        rw [if_pos hx, if_neg hy] at k
        exact k
    · (repeat ((conv => whnf); (first | refine zo0 ?_ | refine zo1 ?_ | refine br_z ?_ | refine br_o ?_ | refine br_zn ?_ | refine br_on ?_ | refine nz2 ?_ | refine nz6 ?_ | refine nz32 ?_ | refine And.intro (by assumption) ?_))); (conv => whnf)
      have k := hK D fq_rf
      unfold qDoor at k
      rw [if_neg hx] at k
      exact k
  · exact absurd h id
theorem clM_door (l : Launch) : ∀ (a : Nat) (ins : Instr) (b dd : Nat), csM_door[a]? = some (ins, b, dd) → am_Call l yM_door.cls 6 ins b dd (fnM_door a) := by
  intro a ins b dd h
  match a, h with
  | 0, h => cases h; exact am_callS (okM_isMinute l) wcM_isMinute (am_m5 (i := 85) rfl rfl) wtM_isMinute inM (by decide +kernel) (by decide) (by decide)
  | 1, h => cases h; exact am_callS (okM_isDoor l) wcM_isDoor (am_m5 (i := 52) rfl rfl) wtM_isDoor inM (by decide +kernel) (by decide) (by decide)
  | 2, h => cases h; exact am_callS (okM_isThree l) wcM_isThree (am_m5 (i := 78) rfl rfl) wtM_isThree inM (by decide +kernel) (by decide) (by decide)
  | 3, h => cases h; exact am_callV (T := F_11) (N := 52) (okM_doorOf l) wcM_doorOf (am_m5 (i := 173) rfl rfl) wiM_doorOf wsM_doorOf inM rfl (by decide) (by decide +kernel) (by decide) (by decide)
  | k + 4, h => simp [csM_door] at h
theorem okM_door (l : Launch) : am_Ok l yM_door prog_13_method_43_code 4 (some .int) 6 spM_door := am_ok_of (by decide +kernel) flM_ok kiM_ok klM_ok ckM_door (clM_door l) wpM_door
def fnM_done : Nat → am_Sp := fun a => match a with
  | 0 => spM_isDoor
  | 1 => spM_doneOf
  | _ => am_no
theorem mfM_done : ∀ a, am_mono (fnM_done a) := fun a => match a with
  | 0 => moM_isDoor
  | 1 => moM_doneOf
  | _ + 2 => am_no_mono
def spM_done : am_Sp := fun as D L K => match as with
  | [.ref 49, .int x] => ∃ v : vs_T, vok v ∧ im D v ∧ ∀ D', fq D D' → K (some (.int (qDone v x))) D' L
  | _ => False
theorem moM_done : am_mono spM_done := by
  intro as D L K K' hK h
  unfold spM_done at h ⊢
  split at h
  · obtain ⟨z0, z1, z2, hz⟩ := h
    exact ⟨z0, z1, z2, fun D' q => hK _ _ _ (hz D' q)⟩
  · exact h
theorem wpM_done : ∀ (as : List Value) (D : am_D) (L : am_L) (K : am_K), spM_done as D L K → am_fit 2 as = true ∧ am_Wp false 0 cdM_done fnM_done K 0 (am_lo 2 as) [] D L := by
  intro as D L K h
  unfold spM_done at h
  split at h
  · rename_i x
    obtain ⟨v, hv, hi, hK⟩ := h
    refine ⟨rfl, am_Wp_bl mfM_done [] 29 _ _ _ _ _ ?_⟩
    (repeat ((conv => whnf); (first | refine zo0 ?_ | refine zo1 ?_ | refine br_z ?_ | refine br_o ?_ | refine br_zn ?_ | refine br_on ?_ | refine nz2 ?_ | refine nz6 ?_ | refine nz32 ?_ | refine And.intro (by assumption) ?_))); (conv => whnf)
    refine ⟨fun hx => ?_, fun hx => ?_⟩
    · (repeat ((conv => whnf); (first | refine zo0 ?_ | refine zo1 ?_ | refine br_z ?_ | refine br_o ?_ | refine br_zn ?_ | refine br_on ?_ | refine nz2 ?_ | refine nz6 ?_ | refine nz32 ?_ | refine And.intro (by assumption) ?_))); (conv => whnf)
      obtain ⟨a, ha, ea⟩ := rg_nI (n := 11) (by decide) hx
      refine ⟨v, a, hv, hi, ea, by omega, fun D' f => ?_⟩
      (repeat ((conv => whnf); (first | refine zo0 ?_ | refine zo1 ?_ | refine br_z ?_ | refine br_o ?_ | refine br_zn ?_ | refine br_on ?_ | refine nz2 ?_ | refine nz6 ?_ | refine nz32 ?_ | refine And.intro (by assumption) ?_))); (conv => whnf)
      have k := hK _ f
      unfold qDone at k
      rw [if_pos hx] at k
      subst ea
      rw [cN_nI (show a < 2 ^ 31 by omega)] at k
      exact k
    · (repeat ((conv => whnf); (first | refine zo0 ?_ | refine zo1 ?_ | refine br_z ?_ | refine br_o ?_ | refine br_zn ?_ | refine br_on ?_ | refine nz2 ?_ | refine nz6 ?_ | refine nz32 ?_ | refine And.intro (by assumption) ?_))); (conv => whnf)
      have k := hK D fq_rf
      unfold qDone at k
      rw [if_neg hx] at k
      exact k
  · exact absurd h id
theorem clM_done (l : Launch) : ∀ (a : Nat) (ins : Instr) (b dd : Nat), csM_done[a]? = some (ins, b, dd) → am_Call l yM_done.cls 8 ins b dd (fnM_done a) := by
  intro a ins b dd h
  match a, h with
  | 0, h => cases h; exact am_callS (okM_isDoor l) wcM_isDoor (am_m5 (i := 52) rfl rfl) wtM_isDoor inM (by decide +kernel) (by decide) (by decide)
  | 1, h => cases h; exact am_callV (T := F_11) (N := 52) (okM_doneOf l) wcM_doneOf (am_m5 (i := 181) rfl rfl) wiM_doneOf wsM_doneOf inM rfl (by decide) (by decide +kernel) (by decide) (by decide)
  | k + 2, h => simp [csM_done] at h
theorem okM_done (l : Launch) : am_Ok l yM_done prog_13_method_45_code 2 (some .int) 8 spM_done := am_ok_of (by decide +kernel) flM_ok kiM_ok klM_ok ckM_done (clM_done l) wpM_done
def fnM_sum : Nat → am_Sp := fun a => match a with
  | 0 => spM_in
  | 1 => spM_sumOf
  | _ => am_no
theorem mfM_sum : ∀ a, am_mono (fnM_sum a) := fun a => match a with
  | 0 => moM_in
  | 1 => moM_sumOf
  | _ + 2 => am_no_mono
def spM_sum : am_Sp := fun as D L K => match as with
  | [.ref 49, .int x] => ∃ v : vs_T, vok v ∧ im D v ∧ ∀ D', fq D D' → K (some (.int (qSum v x))) D' L
  | _ => False
theorem moM_sum : am_mono spM_sum := by
  intro as D L K K' hK h
  unfold spM_sum at h ⊢
  split at h
  · obtain ⟨z0, z1, z2, hz⟩ := h
    exact ⟨z0, z1, z2, fun D' q => hK _ _ _ (hz D' q)⟩
  · exact h
theorem wpM_sum : ∀ (as : List Value) (D : am_D) (L : am_L) (K : am_K), spM_sum as D L K → am_fit 2 as = true ∧ am_Wp false 0 cdM_sum fnM_sum K 0 (am_lo 2 as) [] D L := by
  intro as D L K h
  unfold spM_sum at h
  split at h
  · rename_i x
    obtain ⟨v, hv, hi, hK⟩ := h
    refine ⟨rfl, am_Wp_bl mfM_sum [] 31 _ _ _ _ _ ?_⟩
    (repeat ((conv => whnf); (first | refine zo0 ?_ | refine zo1 ?_ | refine br_z ?_ | refine br_o ?_ | refine br_zn ?_ | refine br_on ?_ | refine nz2 ?_ | refine nz6 ?_ | refine nz32 ?_ | refine And.intro (by assumption) ?_))); (conv => whnf)
    refine ⟨fun hx => ?_, fun hx => ?_⟩
    · (repeat ((conv => whnf); (first | refine zo0 ?_ | refine zo1 ?_ | refine br_z ?_ | refine br_o ?_ | refine br_zn ?_ | refine br_on ?_ | refine nz2 ?_ | refine nz6 ?_ | refine nz32 ?_ | refine And.intro (by assumption) ?_))); (conv => whnf)
      obtain ⟨a, ha, ea⟩ := rg_nI (n := 4) (by decide) hx
      refine ⟨v, a, hv, hi, ea, by omega, fun D' f => ?_⟩
      (repeat ((conv => whnf); (first | refine zo0 ?_ | refine zo1 ?_ | refine br_z ?_ | refine br_o ?_ | refine br_zn ?_ | refine br_on ?_ | refine nz2 ?_ | refine nz6 ?_ | refine nz32 ?_ | refine And.intro (by assumption) ?_))); (conv => whnf)
      have k := hK _ f
      unfold qSum at k
      rw [if_pos hx] at k
      subst ea
      rw [cN_nI (show a < 2 ^ 31 by omega)] at k
      exact k
    · (repeat ((conv => whnf); (first | refine zo0 ?_ | refine zo1 ?_ | refine br_z ?_ | refine br_o ?_ | refine br_zn ?_ | refine br_on ?_ | refine nz2 ?_ | refine nz6 ?_ | refine nz32 ?_ | refine And.intro (by assumption) ?_))); (conv => whnf)
      have k := hK D fq_rf
      unfold qSum at k
      rw [if_neg hx] at k
      exact k
  · exact absurd h id
theorem clM_sum (l : Launch) : ∀ (a : Nat) (ins : Instr) (b dd : Nat), csM_sum[a]? = some (ins, b, dd) → am_Call l yM_sum.cls 8 ins b dd (fnM_sum a) := by
  intro a ins b dd h
  match a, h with
  | 0, h => cases h; exact am_callS (okM_in l) wcM_in (am_m5 (i := 29) rfl rfl) wtM_in inM (by decide +kernel) (by decide) (by decide)
  | 1, h => cases h; exact am_callV (T := F_11) (N := 52) (okM_sumOf l) wcM_sumOf (am_m5 (i := 189) rfl rfl) wiM_sumOf wsM_sumOf inM rfl (by decide) (by decide +kernel) (by decide) (by decide)
  | k + 2, h => simp [csM_sum] at h
theorem okM_sum (l : Launch) : am_Ok l yM_sum prog_13_method_47_code 2 (some .int) 8 spM_sum := am_ok_of (by decide +kernel) flM_ok kiM_ok klM_ok ckM_sum (clM_sum l) wpM_sum
def fnM_over : Nat → am_Sp := fun a => match a with
  | 0 => spM_overOf
  | _ => am_no
theorem mfM_over : ∀ a, am_mono (fnM_over a) := fun a => match a with
  | 0 => moM_overOf
  | _ + 1 => am_no_mono
def spM_over : am_Sp := am_ini cdM_over fnM_over 6 1
theorem moM_over : am_mono spM_over := am_ini_mono mfM_over
theorem wpM_over : ∀ (as : List Value) (D : am_D) (L : am_L) (K : am_K), spM_over as D L K → am_fit 1 as = true ∧ am_Wp false 0 cdM_over fnM_over K 0 (am_lo 1 as) [] D L := am_ini_Wp mfM_over
theorem clM_over (l : Launch) : ∀ (a : Nat) (ins : Instr) (b dd : Nat), csM_over[a]? = some (ins, b, dd) → am_Call l yM_over.cls 8 ins b dd (fnM_over a) := by
  intro a ins b dd h
  match a, h with
  | 0, h => cases h; exact am_callV (T := F_11) (N := 52) (okM_overOf l) wcM_overOf (am_m5 (i := 197) rfl rfl) wiM_overOf wsM_overOf inM rfl (by decide) (by decide +kernel) (by decide) (by decide)
  | k + 1, h => simp [csM_over] at h
theorem okM_over (l : Launch) : am_Ok l yM_over prog_13_method_49_code 1 (some .int) 8 spM_over := am_ok_of (by decide +kernel) flM_ok kiM_ok klM_ok ckM_over (clM_over l) wpM_over
def fnM_lacks : Nat → am_Sp := fun a => match a with
  | 0 => spM_lacksOf
  | _ => am_no
theorem mfM_lacks : ∀ a, am_mono (fnM_lacks a) := fun a => match a with
  | 0 => moM_lacksOf
  | _ + 1 => am_no_mono
def spM_lacks : am_Sp := am_ini cdM_lacks fnM_lacks 6 1
theorem moM_lacks : am_mono spM_lacks := am_ini_mono mfM_lacks
theorem wpM_lacks : ∀ (as : List Value) (D : am_D) (L : am_L) (K : am_K), spM_lacks as D L K → am_fit 1 as = true ∧ am_Wp false 0 cdM_lacks fnM_lacks K 0 (am_lo 1 as) [] D L := am_ini_Wp mfM_lacks
theorem clM_lacks (l : Launch) : ∀ (a : Nat) (ins : Instr) (b dd : Nat), csM_lacks[a]? = some (ins, b, dd) → am_Call l yM_lacks.cls 8 ins b dd (fnM_lacks a) := by
  intro a ins b dd h
  match a, h with
  | 0, h => cases h; exact am_callV (T := F_11) (N := 52) (okM_lacksOf l) wcM_lacksOf (am_m5 (i := 205) rfl rfl) wiM_lacksOf wsM_lacksOf inM rfl (by decide) (by decide +kernel) (by decide) (by decide)
  | k + 1, h => simp [csM_lacks] at h
theorem okM_lacks (l : Launch) : am_Ok l yM_lacks prog_13_method_53_code 1 (some .int) 8 spM_lacks := am_ok_of (by decide +kernel) flM_ok kiM_ok klM_ok ckM_lacks (clM_lacks l) wpM_lacks
def fnM_better : Nat → am_Sp := fun a => match a with
  | 0 => spM_isThree
  | 1 => spM_betterOf
  | _ => am_no
theorem mfM_better : ∀ a, am_mono (fnM_better a) := fun a => match a with
  | 0 => moM_isThree
  | 1 => moM_betterOf
  | _ + 2 => am_no_mono
def spM_better : am_Sp := fun as D L K => match as with
  | [.ref 49, .int x] => ∃ v : vs_T, vok v ∧ im D v ∧ ∀ D', fq D D' → K (some (.int (qBetter v x))) D' L
  | _ => False
theorem moM_better : am_mono spM_better := by
  intro as D L K K' hK h
  unfold spM_better at h ⊢
  split at h
  · obtain ⟨z0, z1, z2, hz⟩ := h
    exact ⟨z0, z1, z2, fun D' q => hK _ _ _ (hz D' q)⟩
  · exact h
theorem wpM_better : ∀ (as : List Value) (D : am_D) (L : am_L) (K : am_K), spM_better as D L K → am_fit 2 as = true ∧ am_Wp false 0 cdM_better fnM_better K 0 (am_lo 2 as) [] D L := by
  intro as D L K h
  unfold spM_better at h
  split at h
  · rename_i x
    obtain ⟨v, hv, hi, hK⟩ := h
    refine ⟨rfl, am_Wp_bl mfM_better [] 29 _ _ _ _ _ ?_⟩
    (repeat ((conv => whnf); (first | refine zo0 ?_ | refine zo1 ?_ | refine br_z ?_ | refine br_o ?_ | refine br_zn ?_ | refine br_on ?_ | refine nz2 ?_ | refine nz6 ?_ | refine nz32 ?_ | refine And.intro (by assumption) ?_))); (conv => whnf)
    refine ⟨fun hx => ?_, fun hx => ?_⟩
    · (repeat ((conv => whnf); (first | refine zo0 ?_ | refine zo1 ?_ | refine br_z ?_ | refine br_o ?_ | refine br_zn ?_ | refine br_on ?_ | refine nz2 ?_ | refine nz6 ?_ | refine nz32 ?_ | refine And.intro (by assumption) ?_))); (conv => whnf)
      obtain ⟨a, ha, ea⟩ := rg_nI (n := 2) (by decide) hx
      refine ⟨v, a, hv, hi, ea, by omega, fun D' f => ?_⟩
      (repeat ((conv => whnf); (first | refine zo0 ?_ | refine zo1 ?_ | refine br_z ?_ | refine br_o ?_ | refine br_zn ?_ | refine br_on ?_ | refine nz2 ?_ | refine nz6 ?_ | refine nz32 ?_ | refine And.intro (by assumption) ?_))); (conv => whnf)
      have k := hK _ f
      unfold qBetter at k
      rw [if_pos hx] at k
      subst ea
      rw [cN_nI (show a < 2 ^ 31 by omega)] at k
      exact k
    · (repeat ((conv => whnf); (first | refine zo0 ?_ | refine zo1 ?_ | refine br_z ?_ | refine br_o ?_ | refine br_zn ?_ | refine br_on ?_ | refine nz2 ?_ | refine nz6 ?_ | refine nz32 ?_ | refine And.intro (by assumption) ?_))); (conv => whnf)
      have k := hK D fq_rf
      unfold qBetter at k
      rw [if_neg hx] at k
      exact k
  · exact absurd h id
theorem clM_better (l : Launch) : ∀ (a : Nat) (ins : Instr) (b dd : Nat), csM_better[a]? = some (ins, b, dd) → am_Call l yM_better.cls 8 ins b dd (fnM_better a) := by
  intro a ins b dd h
  match a, h with
  | 0, h => cases h; exact am_callS (okM_isThree l) wcM_isThree (am_m5 (i := 78) rfl rfl) wtM_isThree inM (by decide +kernel) (by decide) (by decide)
  | 1, h => cases h; exact am_callV (T := F_11) (N := 52) (okM_betterOf l) wcM_betterOf (am_m5 (i := 217) rfl rfl) wiM_betterOf wsM_betterOf inM rfl (by decide) (by decide +kernel) (by decide) (by decide)
  | k + 2, h => simp [csM_better] at h
theorem okM_better (l : Launch) : am_Ok l yM_better prog_13_method_57_code 2 (some .int) 8 spM_better := am_ok_of (by decide +kernel) flM_ok kiM_ok klM_ok ckM_better (clM_better l) wpM_better
def fnM_fit : Nat → am_Sp := fun a => match a with
  | 0 => spM_isThree
  | 1 => spM_fitOf
  | _ => am_no
theorem mfM_fit : ∀ a, am_mono (fnM_fit a) := fun a => match a with
  | 0 => moM_isThree
  | 1 => moM_fitOf
  | _ + 2 => am_no_mono
def spM_fit : am_Sp := fun as D L K => match as with
  | [.ref 49, .int x] => ∃ v : vs_T, vok v ∧ im D v ∧ ∀ D', fq D D' → K (some (.int (qFit v x))) D' L
  | _ => False
theorem moM_fit : am_mono spM_fit := by
  intro as D L K K' hK h
  unfold spM_fit at h ⊢
  split at h
  · obtain ⟨z0, z1, z2, hz⟩ := h
    exact ⟨z0, z1, z2, fun D' q => hK _ _ _ (hz D' q)⟩
  · exact h
theorem wpM_fit : ∀ (as : List Value) (D : am_D) (L : am_L) (K : am_K), spM_fit as D L K → am_fit 2 as = true ∧ am_Wp false 0 cdM_fit fnM_fit K 0 (am_lo 2 as) [] D L := by
  intro as D L K h
  unfold spM_fit at h
  split at h
  · rename_i x
    obtain ⟨v, hv, hi, hK⟩ := h
    refine ⟨rfl, am_Wp_bl mfM_fit [] 29 _ _ _ _ _ ?_⟩
    (repeat ((conv => whnf); (first | refine zo0 ?_ | refine zo1 ?_ | refine br_z ?_ | refine br_o ?_ | refine br_zn ?_ | refine br_on ?_ | refine nz2 ?_ | refine nz6 ?_ | refine nz32 ?_ | refine And.intro (by assumption) ?_))); (conv => whnf)
    refine ⟨fun hx => ?_, fun hx => ?_⟩
    · (repeat ((conv => whnf); (first | refine zo0 ?_ | refine zo1 ?_ | refine br_z ?_ | refine br_o ?_ | refine br_zn ?_ | refine br_on ?_ | refine nz2 ?_ | refine nz6 ?_ | refine nz32 ?_ | refine And.intro (by assumption) ?_))); (conv => whnf)
      obtain ⟨a, ha, ea⟩ := rg_nI (n := 2) (by decide) hx
      refine ⟨v, a, hv, hi, ea, by omega, fun D' f => ?_⟩
      (repeat ((conv => whnf); (first | refine zo0 ?_ | refine zo1 ?_ | refine br_z ?_ | refine br_o ?_ | refine br_zn ?_ | refine br_on ?_ | refine nz2 ?_ | refine nz6 ?_ | refine nz32 ?_ | refine And.intro (by assumption) ?_))); (conv => whnf)
      have k := hK _ f
      unfold qFit at k
      rw [if_pos hx] at k
      subst ea
      rw [cN_nI (show a < 2 ^ 31 by omega)] at k
      exact k
    · (repeat ((conv => whnf); (first | refine zo0 ?_ | refine zo1 ?_ | refine br_z ?_ | refine br_o ?_ | refine br_zn ?_ | refine br_on ?_ | refine nz2 ?_ | refine nz6 ?_ | refine nz32 ?_ | refine And.intro (by assumption) ?_))); (conv => whnf)
      have k := hK D fq_rf
      unfold qFit at k
      rw [if_neg hx] at k
      exact k
  · exact absurd h id
theorem clM_fit (l : Launch) : ∀ (a : Nat) (ins : Instr) (b dd : Nat), csM_fit[a]? = some (ins, b, dd) → am_Call l yM_fit.cls 8 ins b dd (fnM_fit a) := by
  intro a ins b dd h
  match a, h with
  | 0, h => cases h; exact am_callS (okM_isThree l) wcM_isThree (am_m5 (i := 78) rfl rfl) wtM_isThree inM (by decide +kernel) (by decide) (by decide)
  | 1, h => cases h; exact am_callV (T := F_11) (N := 52) (okM_fitOf l) wcM_fitOf (am_m5 (i := 237) rfl rfl) wiM_fitOf wsM_fitOf inM rfl (by decide) (by decide +kernel) (by decide) (by decide)
  | k + 2, h => simp [csM_fit] at h
theorem okM_fit (l : Launch) : am_Ok l yM_fit prog_13_method_59_code 2 (some .int) 8 spM_fit := am_ok_of (by decide +kernel) flM_ok kiM_ok klM_ok ckM_fit (clM_fit l) wpM_fit
def fnM_swap : Nat → am_Sp := fun a => match a with
  | 0 => spM_in
  | 1 => spM_swapOf
  | _ => am_no
theorem mfM_swap : ∀ a, am_mono (fnM_swap a) := fun a => match a with
  | 0 => moM_in
  | 1 => moM_swapOf
  | _ + 2 => am_no_mono
def spM_swap : am_Sp := fun as D L K => match as with
  | [.ref 49, .int x] => ∃ v : vs_T, vok v ∧ im D v ∧ ∀ D', fq D D' → K (some (.int (qSwap v x))) D' L
  | _ => False
theorem moM_swap : am_mono spM_swap := by
  intro as D L K K' hK h
  unfold spM_swap at h ⊢
  split at h
  · obtain ⟨z0, z1, z2, hz⟩ := h
    exact ⟨z0, z1, z2, fun D' q => hK _ _ _ (hz D' q)⟩
  · exact h
theorem wpM_swap : ∀ (as : List Value) (D : am_D) (L : am_L) (K : am_K), spM_swap as D L K → am_fit 2 as = true ∧ am_Wp false 0 cdM_swap fnM_swap K 0 (am_lo 2 as) [] D L := by
  intro as D L K h
  unfold spM_swap at h
  split at h
  · rename_i x
    obtain ⟨v, hv, hi, hK⟩ := h
    refine ⟨rfl, am_Wp_bl mfM_swap [] 31 _ _ _ _ _ ?_⟩
    (repeat ((conv => whnf); (first | refine zo0 ?_ | refine zo1 ?_ | refine br_z ?_ | refine br_o ?_ | refine br_zn ?_ | refine br_on ?_ | refine nz2 ?_ | refine nz6 ?_ | refine nz32 ?_ | refine And.intro (by assumption) ?_))); (conv => whnf)
    refine ⟨fun hx => ?_, fun hx => ?_⟩
    · (repeat ((conv => whnf); (first | refine zo0 ?_ | refine zo1 ?_ | refine br_z ?_ | refine br_o ?_ | refine br_zn ?_ | refine br_on ?_ | refine nz2 ?_ | refine nz6 ?_ | refine nz32 ?_ | refine And.intro (by assumption) ?_))); (conv => whnf)
      obtain ⟨a, ha, ea⟩ := rg_nI (n := 3) (by decide) hx
      refine ⟨v, a, hv, hi, ea, by omega, fun D' f => ?_⟩
      (repeat ((conv => whnf); (first | refine zo0 ?_ | refine zo1 ?_ | refine br_z ?_ | refine br_o ?_ | refine br_zn ?_ | refine br_on ?_ | refine nz2 ?_ | refine nz6 ?_ | refine nz32 ?_ | refine And.intro (by assumption) ?_))); (conv => whnf)
      have k := hK _ f
      unfold qSwap at k
      rw [if_pos hx] at k
      subst ea
      rw [cN_nI (show a < 2 ^ 31 by omega)] at k
      exact k
    · (repeat ((conv => whnf); (first | refine zo0 ?_ | refine zo1 ?_ | refine br_z ?_ | refine br_o ?_ | refine br_zn ?_ | refine br_on ?_ | refine nz2 ?_ | refine nz6 ?_ | refine nz32 ?_ | refine And.intro (by assumption) ?_))); (conv => whnf)
      have k := hK D fq_rf
      unfold qSwap at k
      rw [if_neg hx] at k
      exact k
  · exact absurd h id
theorem clM_swap (l : Launch) : ∀ (a : Nat) (ins : Instr) (b dd : Nat), csM_swap[a]? = some (ins, b, dd) → am_Call l yM_swap.cls 8 ins b dd (fnM_swap a) := by
  intro a ins b dd h
  match a, h with
  | 0, h => cases h; exact am_callS (okM_in l) wcM_in (am_m5 (i := 29) rfl rfl) wtM_in inM (by decide +kernel) (by decide) (by decide)
  | 1, h => cases h; exact am_callV (T := F_11) (N := 52) (okM_swapOf l) wcM_swapOf (am_m6 (i := 5) rfl rfl) wiM_swapOf wsM_swapOf inM rfl (by decide) (by decide +kernel) (by decide) (by decide)
  | k + 2, h => simp [csM_swap] at h
theorem okM_swap (l : Launch) : am_Ok l yM_swap prog_13_method_61_code 2 (some .int) 8 spM_swap := am_ok_of (by decide +kernel) flM_ok kiM_ok klM_ok ckM_swap (clM_swap l) wpM_swap
def fnM_never : Nat → am_Sp := fun a => match a with
  | 0 => spM_neverNow
  | _ => am_no
theorem mfM_never : ∀ a, am_mono (fnM_never a) := fun a => match a with
  | 0 => moM_neverNow
  | _ + 1 => am_no_mono
def spM_never : am_Sp := am_ini cdM_never fnM_never 6 1
theorem moM_never : am_mono spM_never := am_ini_mono mfM_never
theorem wpM_never : ∀ (as : List Value) (D : am_D) (L : am_L) (K : am_K), spM_never as D L K → am_fit 1 as = true ∧ am_Wp false 0 cdM_never fnM_never K 0 (am_lo 1 as) [] D L := am_ini_Wp mfM_never
theorem clM_never (l : Launch) : ∀ (a : Nat) (ins : Instr) (b dd : Nat), csM_never[a]? = some (ins, b, dd) → am_Call l yM_never.cls 8 ins b dd (fnM_never a) := by
  intro a ins b dd h
  match a, h with
  | 0, h => cases h; exact am_callV (T := F_11) (N := 52) (okM_neverNow l) wcM_neverNow (am_m6 (i := 37) rfl rfl) wiM_neverNow wsM_neverNow inM rfl (by decide) (by decide +kernel) (by decide) (by decide)
  | k + 1, h => simp [csM_never] at h
theorem okM_never (l : Launch) : am_Ok l yM_never prog_13_method_70_code 1 (some .int) 8 spM_never := am_ok_of (by decide +kernel) flM_ok kiM_ok klM_ok ckM_never (clM_never l) wpM_never
def fnM_numbers : Nat → am_Sp := fun a => match a with
  | 0 => spM_isDoor
  | 1 => spM_numbersBy
  | _ => am_no
theorem mfM_numbers : ∀ a, am_mono (fnM_numbers a) := fun a => match a with
  | 0 => moM_isDoor
  | 1 => moM_numbersBy
  | _ + 2 => am_no_mono
def spM_numbers : am_Sp := fun as D L K => match as with
  | [.ref 49, .int x] => ∃ v : vs_T, vok v ∧ im D v ∧ ∀ D', fq D D' → K (some (.int (qNumbers v x))) D' L
  | _ => False
theorem moM_numbers : am_mono spM_numbers := by
  intro as D L K K' hK h
  unfold spM_numbers at h ⊢
  split at h
  · obtain ⟨z0, z1, z2, hz⟩ := h
    exact ⟨z0, z1, z2, fun D' q => hK _ _ _ (hz D' q)⟩
  · exact h
theorem wpM_numbers : ∀ (as : List Value) (D : am_D) (L : am_L) (K : am_K), spM_numbers as D L K → am_fit 2 as = true ∧ am_Wp false 0 cdM_numbers fnM_numbers K 0 (am_lo 2 as) [] D L := by
  intro as D L K h
  unfold spM_numbers at h
  split at h
  · rename_i x
    obtain ⟨v, hv, hi, hK⟩ := h
    refine ⟨rfl, am_Wp_bl mfM_numbers [] 29 _ _ _ _ _ ?_⟩
    (repeat ((conv => whnf); (first | refine zo0 ?_ | refine zo1 ?_ | refine br_z ?_ | refine br_o ?_ | refine br_zn ?_ | refine br_on ?_ | refine nz2 ?_ | refine nz6 ?_ | refine nz32 ?_ | refine And.intro (by assumption) ?_))); (conv => whnf)
    refine ⟨fun hx => ?_, fun hx => ?_⟩
    · (repeat ((conv => whnf); (first | refine zo0 ?_ | refine zo1 ?_ | refine br_z ?_ | refine br_o ?_ | refine br_zn ?_ | refine br_on ?_ | refine nz2 ?_ | refine nz6 ?_ | refine nz32 ?_ | refine And.intro (by assumption) ?_))); (conv => whnf)
      obtain ⟨a, ha, ea⟩ := rg_nI (n := 11) (by decide) hx
      refine ⟨v, a, hv, hi, ea, by omega, fun D' f => ?_⟩
      (repeat ((conv => whnf); (first | refine zo0 ?_ | refine zo1 ?_ | refine br_z ?_ | refine br_o ?_ | refine br_zn ?_ | refine br_on ?_ | refine nz2 ?_ | refine nz6 ?_ | refine nz32 ?_ | refine And.intro (by assumption) ?_))); (conv => whnf)
      have k := hK _ f
      unfold qNumbers at k
      rw [if_pos hx] at k
      subst ea
      rw [cN_nI (show a < 2 ^ 31 by omega)] at k
      exact k
    · (repeat ((conv => whnf); (first | refine zo0 ?_ | refine zo1 ?_ | refine br_z ?_ | refine br_o ?_ | refine br_zn ?_ | refine br_on ?_ | refine nz2 ?_ | refine nz6 ?_ | refine nz32 ?_ | refine And.intro (by assumption) ?_))); (conv => whnf)
      have k := hK D fq_rf
      unfold qNumbers at k
      rw [if_neg hx] at k
      exact k
  · exact absurd h id
theorem clM_numbers (l : Launch) : ∀ (a : Nat) (ins : Instr) (b dd : Nat), csM_numbers[a]? = some (ins, b, dd) → am_Call l yM_numbers.cls 8 ins b dd (fnM_numbers a) := by
  intro a ins b dd h
  match a, h with
  | 0, h => cases h; exact am_callS (okM_isDoor l) wcM_isDoor (am_m5 (i := 52) rfl rfl) wtM_isDoor inM (by decide +kernel) (by decide) (by decide)
  | 1, h => cases h; exact am_callV (T := F_11) (N := 52) (okM_numbersBy l) wcM_numbersBy (am_m6 (i := 49) rfl rfl) wiM_numbersBy wsM_numbersBy inM rfl (by decide) (by decide +kernel) (by decide) (by decide)
  | k + 2, h => simp [csM_numbers] at h
theorem okM_numbers (l : Launch) : am_Ok l yM_numbers prog_13_method_72_code 2 (some .int) 8 spM_numbers := am_ok_of (by decide +kernel) flM_ok kiM_ok klM_ok ckM_numbers (clM_numbers l) wpM_numbers
def fnM_ask : Nat → am_Sp := fun a => match a with
  | 0 => spM_askOf
  | _ => am_no
theorem mfM_ask : ∀ a, am_mono (fnM_ask a) := fun a => match a with
  | 0 => moM_askOf
  | _ + 1 => am_no_mono
def spM_ask : am_Sp := am_ini cdM_ask fnM_ask 6 1
theorem moM_ask : am_mono spM_ask := am_ini_mono mfM_ask
theorem wpM_ask : ∀ (as : List Value) (D : am_D) (L : am_L) (K : am_K), spM_ask as D L K → am_fit 1 as = true ∧ am_Wp false 0 cdM_ask fnM_ask K 0 (am_lo 1 as) [] D L := am_ini_Wp mfM_ask
theorem clM_ask (l : Launch) : ∀ (a : Nat) (ins : Instr) (b dd : Nat), csM_ask[a]? = some (ins, b, dd) → am_Call l yM_ask.cls 9 ins b dd (fnM_ask a) := by
  intro a ins b dd h
  match a, h with
  | 0, h => cases h; exact am_callV (T := F_11) (N := 52) (okM_askOf l) wcM_askOf (am_m6 (i := 69) rfl rfl) wiM_askOf wsM_askOf inM rfl (by decide) (by decide +kernel) (by decide) (by decide)
  | k + 1, h => simp [csM_ask] at h
theorem okM_ask (l : Launch) : am_Ok l yM_ask prog_13_method_77_code 1 (some .int) 9 spM_ask := am_ok_of (by decide +kernel) flM_ok kiM_ok klM_ok ckM_ask (clM_ask l) wpM_ask
def fnM_chance : Nat → am_Sp := fun a => match a with
  | 0 => spM_in
  | 1 => spM_isDoor
  | 2 => spM_isTwo
  | 3 => spM_chanceOf
  | 4 => spM_no
  | _ => am_no
theorem mfM_chance : ∀ a, am_mono (fnM_chance a) := fun a => match a with
  | 0 => moM_in
  | 1 => moM_isDoor
  | 2 => moM_isTwo
  | 3 => moM_chanceOf
  | 4 => moM_no
  | _ + 5 => am_no_mono
def spM_chance : am_Sp := fun as D L K => match as with
  | [.ref 49, .int x, .int y, .int z] => ∃ v : vs_T, vok v ∧ im D v ∧ ∀ D', fq D D' → K (some (.long (qChance v x y z))) D' L
  | _ => False
theorem moM_chance : am_mono spM_chance := by
  intro as D L K K' hK h
  unfold spM_chance at h ⊢
  split at h
  · obtain ⟨z0, z1, z2, hz⟩ := h
    exact ⟨z0, z1, z2, fun D' q => hK _ _ _ (hz D' q)⟩
  · exact h
theorem wpM_chance : ∀ (as : List Value) (D : am_D) (L : am_L) (K : am_K), spM_chance as D L K → am_fit 4 as = true ∧ am_Wp false 0 cdM_chance fnM_chance K 0 (am_lo 4 as) [] D L := by
  intro as D L K h
  unfold spM_chance at h
  split at h
  · rename_i x y z
    obtain ⟨v, hv, hi, hK⟩ := h
    refine ⟨rfl, am_Wp_bl mfM_chance [] 40 _ _ _ _ _ ?_⟩
    (repeat ((conv => whnf); (first | refine zo0 ?_ | refine zo1 ?_ | refine br_z ?_ | refine br_o ?_ | refine br_zn ?_ | refine br_on ?_ | refine nz2 ?_ | refine nz6 ?_ | refine nz32 ?_ | refine And.intro (by assumption) ?_))); (conv => whnf)
    refine ⟨fun hx => ?_, fun hx => ?_⟩
    · (repeat ((conv => whnf); (first | refine zo0 ?_ | refine zo1 ?_ | refine br_z ?_ | refine br_o ?_ | refine br_zn ?_ | refine br_on ?_ | refine nz2 ?_ | refine nz6 ?_ | refine nz32 ?_ | refine And.intro (by assumption) ?_))); (conv => whnf)
      refine ⟨fun hy => ?_, fun hy => ?_⟩
      · (repeat ((conv => whnf); (first | refine zo0 ?_ | refine zo1 ?_ | refine br_z ?_ | refine br_o ?_ | refine br_zn ?_ | refine br_on ?_ | refine nz2 ?_ | refine nz6 ?_ | refine nz32 ?_ | refine And.intro (by assumption) ?_))); (conv => whnf)
        refine ⟨fun hz => ?_, fun hz => ?_⟩
        · (repeat ((conv => whnf); (first | refine zo0 ?_ | refine zo1 ?_ | refine br_z ?_ | refine br_o ?_ | refine br_zn ?_ | refine br_on ?_ | refine nz2 ?_ | refine nz6 ?_ | refine nz32 ?_ | refine And.intro (by assumption) ?_))); (conv => whnf)
          obtain ⟨a, ha, ea⟩ := rg_nI (n := 16) (by decide) hx
          obtain ⟨b, hb, eb⟩ := rg_nI (n := 11) (by decide) hy
          obtain ⟨c, hc, ec⟩ := rg_nI (n := 1) (by decide) hz
          refine ⟨v, a, b, c, hv, hi, ea, by omega, eb, by omega, ec, by omega, fun D' f => ?_⟩
          (repeat ((conv => whnf); (first | refine zo0 ?_ | refine zo1 ?_ | refine br_z ?_ | refine br_o ?_ | refine br_zn ?_ | refine br_on ?_ | refine nz2 ?_ | refine nz6 ?_ | refine nz32 ?_ | refine And.intro (by assumption) ?_))); (conv => whnf)
          have k := hK _ f
          unfold qChance at k
          rw [if_pos hx, if_pos hy, if_pos hz] at k
          subst ea
          subst eb
          subst ec
          rw [cN_nI (show a < 2 ^ 31 by omega), cN_nI (show b < 2 ^ 31 by omega), cN_nI (show c < 2 ^ 31 by omega)] at k
          exact k
        · (repeat ((conv => whnf); (first | refine zo0 ?_ | refine zo1 ?_ | refine br_z ?_ | refine br_o ?_ | refine br_zn ?_ | refine br_on ?_ | refine nz2 ?_ | refine nz6 ?_ | refine nz32 ?_ | refine And.intro (by assumption) ?_))); (conv => whnf)
          have k := hK D fq_rf
          unfold qChance at k
          rw [if_pos hx, if_pos hy, if_neg hz] at k
          exact k
      · (repeat ((conv => whnf); (first | refine zo0 ?_ | refine zo1 ?_ | refine br_z ?_ | refine br_o ?_ | refine br_zn ?_ | refine br_on ?_ | refine nz2 ?_ | refine nz6 ?_ | refine nz32 ?_ | refine And.intro (by assumption) ?_))); (conv => whnf)
        have k := hK D fq_rf
        unfold qChance at k
        rw [if_pos hx, if_neg hy] at k
        exact k
    · (repeat ((conv => whnf); (first | refine zo0 ?_ | refine zo1 ?_ | refine br_z ?_ | refine br_o ?_ | refine br_zn ?_ | refine br_on ?_ | refine nz2 ?_ | refine nz6 ?_ | refine nz32 ?_ | refine And.intro (by assumption) ?_))); (conv => whnf)
      have k := hK D fq_rf
      unfold qChance at k
      rw [if_neg hx] at k
      exact k
  · exact absurd h id
theorem clM_chance (l : Launch) : ∀ (a : Nat) (ins : Instr) (b dd : Nat), csM_chance[a]? = some (ins, b, dd) → am_Call l yM_chance.cls 7 ins b dd (fnM_chance a) := by
  intro a ins b dd h
  match a, h with
  | 0, h => cases h; exact am_callS (okM_in l) wcM_in (am_m5 (i := 29) rfl rfl) wtM_in inM (by decide +kernel) (by decide) (by decide)
  | 1, h => cases h; exact am_callS (okM_isDoor l) wcM_isDoor (am_m5 (i := 52) rfl rfl) wtM_isDoor inM (by decide +kernel) (by decide) (by decide)
  | 2, h => cases h; exact am_callS (okM_isTwo l) wcM_isTwo (am_m5 (i := 55) rfl rfl) wtM_isTwo inM (by decide +kernel) (by decide) (by decide)
  | 3, h => cases h; exact am_callV (T := F_11) (N := 52) (okM_chanceOf l) wcM_chanceOf (am_m6 (i := 77) rfl rfl) wiM_chanceOf wsM_chanceOf inM rfl (by decide) (by decide +kernel) (by decide) (by decide)
  | 4, h => cases h; exact am_callS (okM_no l) wcM_no (am_m6 (i := 84) rfl rfl) wtM_no inM (by decide +kernel) (by decide) (by decide)
  | k + 5, h => simp [csM_chance] at h
theorem okM_chance (l : Launch) : am_Ok l yM_chance prog_13_method_79_code 4 (some .long) 7 spM_chance := am_ok_of (by decide +kernel) flM_ok kiM_ok klM_ok ckM_chance (clM_chance l) wpM_chance
def fnM_mornings : Nat → am_Sp := fun a => match a with
  | 0 => spM_in
  | 1 => spM_isTwo
  | 2 => spM_morningsOf
  | _ => am_no
theorem mfM_mornings : ∀ a, am_mono (fnM_mornings a) := fun a => match a with
  | 0 => moM_in
  | 1 => moM_isTwo
  | 2 => moM_morningsOf
  | _ + 3 => am_no_mono
def spM_mornings : am_Sp := fun as D L K => match as with
  | [.ref 49, .int s, .int x, .int y] => ∃ v : vs_T, vok v ∧ im D v ∧ ∀ D', fq D D' → K (some (.int (qMorn v s x y))) D' L
  | _ => False
theorem moM_mornings : am_mono spM_mornings := by
  intro as D L K K' hK h
  unfold spM_mornings at h ⊢
  split at h
  · obtain ⟨z0, z1, z2, hz⟩ := h
    exact ⟨z0, z1, z2, fun D' q => hK _ _ _ (hz D' q)⟩
  · exact h
theorem wpM_mornings : ∀ (as : List Value) (D : am_D) (L : am_L) (K : am_K), spM_mornings as D L K → am_fit 4 as = true ∧ am_Wp false 0 cdM_mornings fnM_mornings K 0 (am_lo 4 as) [] D L := by
  intro as D L K h
  unfold spM_mornings at h
  split at h
  · rename_i s x y
    obtain ⟨v, hv, hi, hK⟩ := h
    refine ⟨rfl, am_Wp_bl mfM_mornings [] 36 _ _ _ _ _ ?_⟩
    (repeat ((conv => whnf); (first | refine zo0 ?_ | refine zo1 ?_ | refine br_z ?_ | refine br_o ?_ | refine br_zn ?_ | refine br_on ?_ | refine nz2 ?_ | refine nz6 ?_ | refine nz32 ?_ | refine And.intro (by assumption) ?_))); (conv => whnf)
    refine ⟨fun hx => ?_, fun hx => ?_⟩
    · (repeat ((conv => whnf); (first | refine zo0 ?_ | refine zo1 ?_ | refine br_z ?_ | refine br_o ?_ | refine br_zn ?_ | refine br_on ?_ | refine nz2 ?_ | refine nz6 ?_ | refine nz32 ?_ | refine And.intro (by assumption) ?_))); (conv => whnf)
      refine ⟨fun hy => ?_, fun hy => ?_⟩
      · (repeat ((conv => whnf); (first | refine zo0 ?_ | refine zo1 ?_ | refine br_z ?_ | refine br_o ?_ | refine br_zn ?_ | refine br_on ?_ | refine nz2 ?_ | refine nz6 ?_ | refine nz32 ?_ | refine And.intro (by assumption) ?_))); (conv => whnf)
        obtain ⟨a, ha, ea⟩ := rg_nI (n := 12) (by decide) hx
        obtain ⟨b, hb, eb⟩ := rg_nI (n := 1) (by decide) hy
        refine ⟨v, a, b, hv, hi, ea, by omega, eb, by omega, fun D' f => ?_⟩
        (repeat ((conv => whnf); (first | refine zo0 ?_ | refine zo1 ?_ | refine br_z ?_ | refine br_o ?_ | refine br_zn ?_ | refine br_on ?_ | refine nz2 ?_ | refine nz6 ?_ | refine nz32 ?_ | refine And.intro (by assumption) ?_))); (conv => whnf)
        have k := hK _ f
        unfold qMorn at k
        rw [if_pos hx, if_pos hy] at k
        subst ea
        subst eb
        rw [cN_nI (show a < 2 ^ 31 by omega), cN_nI (show b < 2 ^ 31 by omega)] at k
        exact k
      · (repeat ((conv => whnf); (first | refine zo0 ?_ | refine zo1 ?_ | refine br_z ?_ | refine br_o ?_ | refine br_zn ?_ | refine br_on ?_ | refine nz2 ?_ | refine nz6 ?_ | refine nz32 ?_ | refine And.intro (by assumption) ?_))); (conv => whnf)
        have k := hK D fq_rf
        unfold qMorn at k
        rw [if_pos hx, if_neg hy] at k
        exact k
    · (repeat ((conv => whnf); (first | refine zo0 ?_ | refine zo1 ?_ | refine br_z ?_ | refine br_o ?_ | refine br_zn ?_ | refine br_on ?_ | refine nz2 ?_ | refine nz6 ?_ | refine nz32 ?_ | refine And.intro (by assumption) ?_))); (conv => whnf)
      have k := hK D fq_rf
      unfold qMorn at k
      rw [if_neg hx] at k
      exact k
  · exact absurd h id
theorem clM_mornings (l : Launch) : ∀ (a : Nat) (ins : Instr) (b dd : Nat), csM_mornings[a]? = some (ins, b, dd) → am_Call l yM_mornings.cls 7 ins b dd (fnM_mornings a) := by
  intro a ins b dd h
  match a, h with
  | 0, h => cases h; exact am_callS (okM_in l) wcM_in (am_m5 (i := 29) rfl rfl) wtM_in inM (by decide +kernel) (by decide) (by decide)
  | 1, h => cases h; exact am_callS (okM_isTwo l) wcM_isTwo (am_m5 (i := 55) rfl rfl) wtM_isTwo inM (by decide +kernel) (by decide) (by decide)
  | 2, h => cases h; exact am_callV (T := F_11) (N := 52) (okM_morningsOf l) wcM_morningsOf (am_m6 (i := 92) rfl rfl) wiM_morningsOf wsM_morningsOf inM rfl (by decide) (by decide +kernel) (by decide) (by decide)
  | k + 3, h => simp [csM_mornings] at h
theorem okM_mornings (l : Launch) : am_Ok l yM_mornings prog_13_method_81_code 4 (some .int) 7 spM_mornings := am_ok_of (by decide +kernel) flM_ok kiM_ok klM_ok ckM_mornings (clM_mornings l) wpM_mornings
