/-! sheets that begin, copies, what is written down, events that are read -/
def gBg (v : vs_T) (s : Nat) (y z : Int32) (k : Nat) : vs_T := fun c => if c = 10 then (fun i => if 60 * s ≤ i ∧ i < 60 * s + k then 0 else v 10 i) else am_up (am_up (am_up v 7 s 1) 8 s y) 9 s z c
theorem gBg_0 (v : vs_T) (s : Nat) (y z : Int32) : gBg v s y z 0 = am_up (am_up (am_up v 7 s 1) 8 s y) 9 s z := by
  funext c i
  unfold gBg
  by_cases h : c = 10
  · subst h
    rw [if_pos rfl, if_neg (by omega)]
    simp only [ap]
    simp
  · rw [if_neg h]
theorem gBg_s (v : vs_T) (s : Nat) (y z : Int32) (k : Nat) : am_up (gBg v s y z k) 10 (60 * s + k) 0 = gBg v s y z (k + 1) := by
  funext c i
  rw [ap]
  unfold gBg
  by_cases h : c = 10
  · subst h
    simp only [if_true]
    by_cases e : i = 60 * s + k
    · rw [if_pos e, if_pos (by omega)]
    · rw [if_neg e]
      by_cases e2 : 60 * s ≤ i ∧ i < 60 * s + k
      · rw [if_pos e2, if_pos (by omega)]
      · rw [if_neg e2, if_neg (by omega)]
  · rw [if_neg h, if_neg h, if_neg h]
/-- n things from i on lie in a sheet of z -/
def hld (z i n : Int32) : Bool := decide (0 ≤ i) && decide (0 ≤ n) && decide (i.toInt + n.toInt ≤ z.toInt)
theorem hld_i {z i n : Int32} (h : i < 0) : hld z i n = false := by
  unfold hld
  rw [decide_eq_false (Int32.not_le.mpr h)]
  rfl
theorem hld_n {z i n : Int32} (h : n < 0) : hld z i n = false := by
  unfold hld
  rw [decide_eq_false (show ¬ 0 ≤ n from Int32.not_le.mpr h)]
  simp
theorem hld_N {p a c : Nat} (hp : p < 2 ^ 31) (ha : a < 2 ^ 31) (hc : c < 2 ^ 31) : hld (nI p) (nI a) (nI c) = true ↔ a + c ≤ p := by
  unfold hld
  rw [nI_toInt hp, nI_toInt ha, nI_toInt hc, decide_eq_true (nI_pos' ha), decide_eq_true (nI_pos' hc)]
  simp only [Bool.true_and, decide_eq_true_eq]
  omega
theorem lc_gt {p a c : Nat} (hp : p < 2 ^ 31) (ha : a < 2 ^ 31) (hc : c < 2 ^ 31) : lg_cmp ((nI a).toInt64 + (nI c).toInt64) (nI p).toInt64 ≤ 0 ↔ a + c ≤ p := by
  rw [lcmp_le, nI_l ha, nI_l hc, nI_l hp, lN_add, pk_lLT (by omega) (by omega)]
  omega
theorem nle_lt (x : Int32) : 0 < x ↔ ¬ x ≤ 0 := Int32.not_le.symm
def gCp (v : vs_T) (s i t j k : Nat) : vs_T := fun c => if c = 10 then (fun q => if 60 * t + j ≤ q ∧ q < 60 * t + j + k then v 10 (60 * s + i + (q - (60 * t + j))) else v 10 q) else v c
theorem gCp_0 (v : vs_T) (s i t j : Nat) : gCp v s i t j 0 = v := by
  funext c q
  unfold gCp
  by_cases h : c = 10
  · subst h
    rw [if_pos rfl, if_neg (by omega)]
  · rw [if_neg h]
theorem gCp_s (v : vs_T) (s i t j k : Nat) : am_up (gCp v s i t j k) 10 (60 * t + j + k) (v 10 (60 * s + i + k)) = gCp v s i t j (k + 1) := by
  funext c q
  rw [ap]
  unfold gCp
  by_cases h : c = 10
  · subst h
    simp only [if_true]
    by_cases e : q = 60 * t + j + k
    · rw [if_pos e, if_pos (by omega), show q - (60 * t + j) = k by omega]
    · rw [if_neg e]
      by_cases e2 : 60 * t + j ≤ q ∧ q < 60 * t + j + k
      · rw [if_pos e2, if_pos (by omega)]
      · rw [if_neg e2, if_neg (by omega)]
  · rw [if_neg h, if_neg h, if_neg h]
def gCopy (v : vs_T) (x y z u r : Int32) : vs_T := if 0 ≤ x ∧ x ≤ 3 then (if 0 ≤ z ∧ z ≤ 3 then (if v 7 (cN x) = 0 then gFind v 1 else if v 7 (cN z) = 0 then gFind v 1 else if v 8 (cN x) = v 8 (cN z) then (if hld (v 9 (cN x)) y r = true ∧ hld (v 9 (cN z)) u r = true then gCp v (cN x) (cN y) (cN z) (cN u) (cN r) else gFind v 2) else gFind v 4) else v) else v
def qCopy (v : vs_T) (x y z u r : Int32) : Int32 := if 0 ≤ x ∧ x ≤ 3 then (if 0 ≤ z ∧ z ≤ 3 then (if v 7 (cN x) = 0 then -11 else if v 7 (cN z) = 0 then -11 else if v 8 (cN x) = v 8 (cN z) then (if hld (v 9 (cN x)) y r = true ∧ hld (v 9 (cN z)) u r = true then 1 else -12) else -14) else -2) else -2
def gWr (v : vs_T) (s c k : Nat) : vs_T := fun q => if q = 10 then (fun j => if 60 * s ≤ j ∧ j < 60 * s + k then cut (v 8 s) (nI (va v (j - 60 * s + 1) 0 c)) else v 10 j) else v q
theorem gWr_0 (v : vs_T) (s c : Nat) : gWr v s c 0 = v := by
  funext q j
  unfold gWr
  by_cases h : q = 10
  · subst h
    rw [if_pos rfl, if_neg (by omega)]
  · rw [if_neg h]
theorem gWr_s (v : vs_T) (s c k : Nat) : am_up (gWr v s c k) 10 (60 * s + k) (cut (v 8 s) (nI (va v (k + 1) 0 c))) = gWr v s c (k + 1) := by
  funext q j
  rw [ap]
  unfold gWr
  by_cases h : q = 10
  · subst h
    simp only [if_true]
    by_cases e : j = 60 * s + k
    · rw [if_pos e, if_pos (by omega), show j - 60 * s = k by omega]
    · rw [if_neg e]
      by_cases e2 : 60 * s ≤ j ∧ j < 60 * s + k
      · rw [if_pos e2, if_pos (by omega)]
      · rw [if_neg e2, if_neg (by omega)]
  · rw [if_neg h, if_neg h, if_neg h]
def gWrite (v : vs_T) (x y : Int32) : vs_T := if 0 ≤ x ∧ x ≤ 1 then (if 0 ≤ y ∧ y ≤ 3 then (if v 7 (cN y) = 0 then gFind v 1 else gWr v (cN y) (cN x) (min (vn v 9 (cN y)) 48)) else v) else v
def qWrite (v : vs_T) (x y : Int32) : Int32 := if 0 ≤ x ∧ x ≤ 1 then (if 0 ≤ y ∧ y ≤ 3 then (if v 7 (cN y) = 0 then -11 else nI (min (vn v 9 (cN y)) 48)) else -2) else -2
/-- events read off a sheet: the state and how many, from the n-th on, m at most -/
def rdG (s : Nat) : Nat → Nat → vs_T → vs_T × Nat
  | 0, n, v => (v, n)
  | m + 1, n, v => if 3 * n + 2 < vn v 9 s ∧ 0 < qEvent v (v 10 (60 * s + 3 * n)) (v 10 (60 * s + 3 * n + 1)) (v 10 (60 * s + 3 * n + 2)) then rdG s m (n + 1) (gEvent v (v 10 (60 * s + 3 * n)) (v 10 (60 * s + 3 * n + 1)) (v 10 (60 * s + 3 * n + 2))) else (v, n)
def gRead (v : vs_T) (x : Int32) : vs_T := if 0 ≤ x ∧ x ≤ 3 then (if v 7 (cN x) = 0 then gFind v 1 else (rdG (cN x) 20 0 v).1) else v
def qRead (v : vs_T) (x : Int32) : Int32 := if 0 ≤ x ∧ x ≤ 3 then (if v 7 (cN x) = 0 then -11 else nI (rdG (cN x) 20 0 v).2) else -2
theorem gEvent_c {v : vs_T} {x y z : Int32} {c : Nat} (hc : 5 ≤ c) : gEvent v x y z c = v c := by
  unfold gEvent
  split
  · split
    · split
      · split
        · rfl
        · rw [am_up_ne (by omega), am_up_ne (by omega), am_up_ne (by omega), am_up_ne (by omega)]
      · rfl
    · rfl
  · rfl
theorem vok_event {v : vs_T} {x y z : Int32} (h : vok v) : vok (gEvent v x y z) := by
  unfold gEvent
  split
  · rename_i hx
    split
    · rename_i hy
      split
      · rename_i hz
        split
        · exact h
        · rename_i hn
          obtain ⟨e0, e1⟩ := vok_ev h
          obtain ⟨a, ha, ea⟩ := rg_nI (n := 2) (by decide) hx
          obtain ⟨b, hb, eb⟩ := rg_nI (n := 47) (by decide) hy
          obtain ⟨c, hc, ec⟩ := rg_nI (n := 11) (by decide) hz
          subst ea eb ec
          obtain ⟨h1, h2, h3, h4, h5, ⟨n, q1, q2, q3⟩, h7, h8⟩ := h
          have en : vn v 0 6 = n := vn_nI q2 (by omega)
          rw [en] at hn e1 ⊢
          refine ⟨fun i hi => ?_, fun i hi => ?_, ?_, ?_, ?_, ⟨n + 1, by omega, ?_, fun i hi => ?_⟩, ?_, fun s hs => ?_⟩
          · have := h1 i hi
            simp only [ap]
            rw [if_pos trivial, if_neg (by omega)]
            simpa using this
          · have := h2 i hi
            simpa [ap] using this
          · simpa [ap] using h3
          · simpa [ap] using h4
          · simpa [ap] using h5
          · simp [ap]
          · by_cases e : i = n
            · subst e
              simp only [ap]
              refine ⟨⟨a, ha, by simp⟩, ⟨b, hb, by simp⟩, ⟨c, hc, by simp⟩⟩
            · have := q3 i (by omega)
              simp only [ap]
              simpa [e] using this
          · simpa [ap] using h7
          · have := h8 s hs
            simpa [ap] using this
      · exact h
    · exact h
  · exact h
theorem gEvent_no {v : vs_T} {x y z : Int32} (h : qEvent v x y z ≤ 0) (hv : vok v) : gEvent v x y z = v := by
  unfold qEvent at h
  unfold gEvent
  split
  · rename_i hx
    rw [if_pos hx] at h
    split
    · rename_i hy
      rw [if_pos hy] at h
      split
      · rename_i hz
        rw [if_pos hz] at h
        split
        · rfl
        · rename_i hn
          rw [if_neg hn] at h
          have := (vok_ev hv).2
          exact absurd h (nI_nle (by omega) (by omega))
      · rfl
    · rfl
  · rfl
def fnM_sheet : Nat → am_Sp := fun a => match a with
  | 0 => spM_isSheet
  | 1 => spM_in
  | 2 => spM_meets
  | _ => am_no
theorem mfM_sheet : ∀ a, am_mono (fnM_sheet a) := fun a => match a with
  | 0 => moM_isSheet
  | 1 => moM_in
  | 2 => moM_meets
  | _ + 3 => am_no_mono
def spM_sheet : am_Sp := fun as D L K => match as with
  | [.ref 49, .int x, .int y, .int z] => ∃ v : vs_T, vok v ∧ im D v ∧ ∀ D', fo D D' → im D' (gSheet v x y z) → K (some (.int (qSheet v x y z))) D' L
  | _ => False
theorem moM_sheet : am_mono spM_sheet := by
  intro as D L K K' hK h
  unfold spM_sheet at h ⊢
  split at h
  · obtain ⟨z0, z1, z2, hz⟩ := h
    exact ⟨z0, z1, z2, fun D' q1 q2 => hK _ _ _ (hz D' q1 q2)⟩
  · exact h
theorem wpM_sheet : ∀ (as : List Value) (D : am_D) (L : am_L) (K : am_K), spM_sheet as D L K → am_fit 5 as = true ∧ am_Wp false 0 cdM_sheet fnM_sheet K 0 (am_lo 5 as) [] D L := by
  intro as D L K h
  unfold spM_sheet at h
  split at h
  · rename_i x y z
    obtain ⟨v, hv, hi, hK⟩ := h
    refine ⟨rfl, am_Wp_bl mfM_sheet [59] 90 _ _ _ _ _ ?_⟩
    (repeat ((conv => whnf); (first | refine zo0 ?_ | refine zo1 ?_ | refine br_z ?_ | refine br_o ?_ | refine br_zn ?_ | refine br_on ?_ | refine nz2 ?_ | refine nz6 ?_ | refine nz32 ?_ | refine And.intro (by assumption) ?_))); (conv => whnf)
    refine ⟨fun hx => ?_, fun hx => ?_⟩
    · (repeat ((conv => whnf); (first | refine zo0 ?_ | refine zo1 ?_ | refine br_z ?_ | refine br_o ?_ | refine br_zn ?_ | refine br_on ?_ | refine nz2 ?_ | refine nz6 ?_ | refine nz32 ?_ | refine And.intro (by assumption) ?_))); (conv => whnf)
      refine ⟨fun hy => ?_, fun hy => ?_⟩
      · obtain ⟨s, hs, es⟩ := rg_nI (n := 3) (by decide) hx
        subst es
        have i4 : vp_in (nI s) 4 := vp_in_nI (by omega) (by decide)
        have cs : (nI s).toNatClampNeg = s := nI_clamp (by omega)
        have loop : z ≤ 60 → ¬ z < 0 → ∀ (m i : Nat) (D' : am_D), i + m = 60 → fo D D' → im D' (gBg v s y z i) → am_Wp false 0 cdM_sheet fnM_sheet K 59 [some (.ref 49), some (.int (nI s)), some (.int y), some (.int z), some (.int (nI i))] [] D' L := by
          intro z1 z2 m
          induction m with
          | zero =>
            intro i D' hm f1 j1
            refine am_Wp_bl mfM_sheet [59] 20 _ _ _ _ _ ?_
            (repeat ((conv => whnf); (first | refine zo0 ?_ | refine zo1 ?_ | refine br_z ?_ | refine br_o ?_ | refine br_zn ?_ | refine br_on ?_ | refine nz2 ?_ | refine nz6 ?_ | refine nz32 ?_ | refine And.intro (by assumption) ?_))); (conv => whnf)
            refine ⟨fun h1 => ?_, fun h1 => absurd (nI_le (a := 60) (by omega) (by omega)) h1⟩
            (repeat ((conv => whnf); (first | refine zo0 ?_ | refine zo1 ?_ | refine br_z ?_ | refine br_o ?_ | refine br_zn ?_ | refine br_on ?_ | refine nz2 ?_ | refine nz6 ?_ | refine nz32 ?_ | refine And.intro (by assumption) ?_))); (conv => whnf)
            rw [show i = 60 by omega] at j1
            have k := hK D' f1
            unfold gSheet qSheet at k
            rw [if_pos hx, if_pos hx, if_pos hy, if_pos hy, if_pos z1, if_pos z1, if_neg z2, if_neg z2, cN_nI (by omega)] at k
            exact k j1
          | succ m ih =>
            intro i D' hm f1 j1
            have e60 : (60 : Int32) * nI s + nI i = nI (60 * s + i) := by rw [show (60 : Int32) = nI 60 by decide +kernel, pk_mul, nI_add]
            have i240 : vp_in (60 * nI s + nI i) 240 := by rw [e60]; exact vp_in_nI (by omega) (by decide)
            have c240 : (60 * nI s + nI i).toNatClampNeg = 60 * s + i := by rw [e60]; exact nI_clamp (by omega)
            refine am_Wp_bl mfM_sheet [59] 40 _ _ _ _ _ ?_
            (repeat ((conv => whnf); (first | refine zo0 ?_ | refine zo1 ?_ | refine br_z ?_ | refine br_o ?_ | refine br_zn ?_ | refine br_on ?_ | refine nz2 ?_ | refine nz6 ?_ | refine nz32 ?_ | refine And.intro (by assumption) ?_))); (conv => whnf)
            refine ⟨fun h1 => absurd h1 (nI_ge (b := 60) (by omega) (by omega)), fun h1 => ?_⟩
            (repeat ((conv => whnf); (first | refine zo0 ?_ | refine zo1 ?_ | refine br_z ?_ | refine br_o ?_ | refine br_zn ?_ | refine br_on ?_ | refine nz2 ?_ | refine nz6 ?_ | refine nz32 ?_ | refine And.intro (by assumption) ?_))); (conv => whnf)
            rw [c240, nI_1]
            refine ih (i + 1) _ (by omega) (fo_up (by decide) (by decide) f1) ?_
            rw [← gBg_s]
            exact im_item j1 (by omega)
        (repeat ((conv => whnf); (first | refine zo0 ?_ | refine zo1 ?_ | refine br_z ?_ | refine br_o ?_ | refine br_zn ?_ | refine br_on ?_ | refine nz2 ?_ | refine nz6 ?_ | refine nz32 ?_ | refine And.intro (by assumption) ?_))); (conv => whnf)
        refine ⟨fun hz => ?_, fun hz => ?_⟩
        · (repeat ((conv => whnf); (first | refine zo0 ?_ | refine zo1 ?_ | refine br_z ?_ | refine br_o ?_ | refine br_zn ?_ | refine br_on ?_ | refine nz2 ?_ | refine nz6 ?_ | refine nz32 ?_ | refine And.intro (by assumption) ?_))); (conv => whnf)
          refine ⟨fun h0 => ?_, fun h0 => ?_⟩
          · (repeat ((conv => whnf); (first | refine zo0 ?_ | refine zo1 ?_ | refine br_z ?_ | refine br_o ?_ | refine br_zn ?_ | refine br_on ?_ | refine nz2 ?_ | refine nz6 ?_ | refine nz32 ?_ | refine And.intro (by assumption) ?_))); (conv => whnf)
            rw [cs]
            refine loop hz (Int32.not_lt.mpr h0) 60 0 _ (by omega) (fo_up (by decide) (by decide) (fo_up (by decide) (by decide) (fo_up (by decide) (by decide) fo_rf))) ?_
            rw [gBg_0]
            exact im_size (im_form (im_there hi (by omega)) (by omega)) (by omega)
          · (repeat ((conv => whnf); (first | refine zo0 ?_ | refine zo1 ?_ | refine br_z ?_ | refine br_o ?_ | refine br_zn ?_ | refine br_on ?_ | refine nz2 ?_ | refine nz6 ?_ | refine nz32 ?_ | refine And.intro (by assumption) ?_))); (conv => whnf)
            have k := hK (am_up D 49 51 5) (fo_up (by decide) (by decide) fo_rf)
            unfold gSheet qSheet at k
            rw [if_pos hx, if_pos hx, if_pos hy, if_pos hy, if_pos hz, if_pos hz, if_pos (Int32.not_le.mp h0), if_pos (Int32.not_le.mp h0)] at k
            exact k (im_find hi)
        · (repeat ((conv => whnf); (first | refine zo0 ?_ | refine zo1 ?_ | refine br_z ?_ | refine br_o ?_ | refine br_zn ?_ | refine br_on ?_ | refine nz2 ?_ | refine nz6 ?_ | refine nz32 ?_ | refine And.intro (by assumption) ?_))); (conv => whnf)
          have k := hK D fo_rf
          unfold gSheet qSheet at k
          rw [if_pos hx, if_pos hx, if_pos hy, if_pos hy, if_neg hz, if_neg hz] at k
          exact k hi
      · (repeat ((conv => whnf); (first | refine zo0 ?_ | refine zo1 ?_ | refine br_z ?_ | refine br_o ?_ | refine br_zn ?_ | refine br_on ?_ | refine nz2 ?_ | refine nz6 ?_ | refine nz32 ?_ | refine And.intro (by assumption) ?_))); (conv => whnf)
        have k := hK D fo_rf
        unfold gSheet qSheet at k
        rw [if_pos hx, if_pos hx, if_neg hy, if_neg hy] at k
        exact k hi
    · (repeat ((conv => whnf); (first | refine zo0 ?_ | refine zo1 ?_ | refine br_z ?_ | refine br_o ?_ | refine br_zn ?_ | refine br_on ?_ | refine nz2 ?_ | refine nz6 ?_ | refine nz32 ?_ | refine And.intro (by assumption) ?_))); (conv => whnf)
      have k := hK D fo_rf
      unfold gSheet qSheet at k
      rw [if_neg hx, if_neg hx] at k
      exact k hi
  · exact absurd h id
theorem clM_sheet (l : Launch) : ∀ (a : Nat) (ins : Instr) (b dd : Nat), csM_sheet[a]? = some (ins, b, dd) → am_Call l yM_sheet.cls 2 ins b dd (fnM_sheet a) := by
  intro a ins b dd h
  match a, h with
  | 0, h => cases h; exact am_callS (okM_isSheet l) wcM_isSheet (am_m5 (i := 96) rfl rfl) wtM_isSheet inM (by decide +kernel) (by decide) (by decide)
  | 1, h => cases h; exact am_callS (okM_in l) wcM_in (am_m5 (i := 29) rfl rfl) wtM_in inM (by decide +kernel) (by decide) (by decide)
  | 2, h => cases h; exact am_callV (T := F_11) (N := 52) (okM_meets l) wcM_meets (am_m5 (i := 99) rfl rfl) wiM_meets wsM_meets inM rfl (by decide) (by decide +kernel) (by decide) (by decide)
  | k + 3, h => simp [csM_sheet] at h
theorem okM_sheet (l : Launch) : am_Ok l yM_sheet prog_13_method_84_code 5 (some .int) 2 spM_sheet := am_ok_of (by decide +kernel) flM_ok kiM_ok klM_ok ckM_sheet (clM_sheet l) wpM_sheet
def fnM_copy : Nat → am_Sp := fun a => match a with
  | 0 => spM_isSheet
  | 1 => spM_meets
  | _ => am_no
theorem mfM_copy : ∀ a, am_mono (fnM_copy a) := fun a => match a with
  | 0 => moM_isSheet
  | 1 => moM_meets
  | _ + 2 => am_no_mono
def spM_copy : am_Sp := fun as D L K => match as with
  | [.ref 49, .int x, .int y, .int z, .int u, .int r] => ∃ v : vs_T, vok v ∧ im D v ∧ ∀ D', fo D D' → im D' (gCopy v x y z u r) → K (some (.int (qCopy v x y z u r))) D' L
  | _ => False
theorem moM_copy : am_mono spM_copy := by
  intro as D L K K' hK h
  unfold spM_copy at h ⊢
  split at h
  · obtain ⟨z0, z1, z2, hz⟩ := h
    exact ⟨z0, z1, z2, fun D' q1 q2 => hK _ _ _ (hz D' q1 q2)⟩
  · exact h
theorem wpM_copy : ∀ (as : List Value) (D : am_D) (L : am_L) (K : am_K), spM_copy as D L K → am_fit 7 as = true ∧ am_Wp false 0 cdM_copy fnM_copy K 0 (am_lo 7 as) [] D L := by
  intro as D L K h
  unfold spM_copy at h
  split at h
  · rename_i x y z u r
    obtain ⟨v, hv, hi, hK⟩ := h
    refine ⟨rfl, am_Wp_bl mfM_copy [120] 120 _ _ _ _ _ ?_⟩
    (repeat ((conv => whnf); (first | refine zo0 ?_ | refine zo1 ?_ | refine br_z ?_ | refine br_o ?_ | refine br_zn ?_ | refine br_on ?_ | refine nz2 ?_ | refine nz6 ?_ | refine nz32 ?_ | refine And.intro (by assumption) ?_))); (conv => whnf)
    refine ⟨fun hx => ?_, fun hx => ?_⟩
    · (repeat ((conv => whnf); (first | refine zo0 ?_ | refine zo1 ?_ | refine br_z ?_ | refine br_o ?_ | refine br_zn ?_ | refine br_on ?_ | refine nz2 ?_ | refine nz6 ?_ | refine nz32 ?_ | refine And.intro (by assumption) ?_))); (conv => whnf)
      refine ⟨fun hz => ?_, fun hz => ?_⟩
      · obtain ⟨s, hs, es⟩ := rg_nI (n := 3) (by decide) hx
        obtain ⟨t, ht, et⟩ := rg_nI (n := 3) (by decide) hz
        subst es et
        have i4 : vp_in (nI s) 4 := vp_in_nI (by omega) (by decide)
        have cs : (nI s).toNatClampNeg = s := nI_clamp (by omega)
        have j4 : vp_in (nI t) 4 := vp_in_nI (by omega) (by decide)
        have ct : (nI t).toNatClampNeg = t := nI_clamp (by omega)
        obtain ⟨w1, w2, w3⟩ := hi.2.2.2.2.2.2.2.2.1 s (by omega)
        obtain ⟨x1, x2, x3⟩ := hi.2.2.2.2.2.2.2.2.1 t (by omega)
        obtain ⟨p, hp, ep⟩ := (hv.2.2.2.2.2.2.2 s (by omega)).2.2
        obtain ⟨q, hq, eq⟩ := (hv.2.2.2.2.2.2.2 t (by omega)).2.2
        have kn1 : v 7 s = 0 → K (some (.int (-11))) (am_up D 49 51 1) L := fun e => by
          have k := hK (am_up D 49 51 1) (fo_up (by decide) (by decide) fo_rf)
          unfold gCopy qCopy at k
          rw [if_pos hx, if_pos hx, if_pos hz, if_pos hz, cN_nI (by omega), if_pos e, if_pos e] at k
          exact k (im_find hi)
        have kn2 : ¬ v 7 s = 0 → v 7 t = 0 → K (some (.int (-11))) (am_up D 49 51 1) L := fun e e2 => by
          have k := hK (am_up D 49 51 1) (fo_up (by decide) (by decide) fo_rf)
          unfold gCopy qCopy at k
          rw [if_pos hx, if_pos hx, if_pos hz, if_pos hz, cN_nI (n := s) (by omega), cN_nI (n := t) (by omega), if_neg e, if_neg e, if_pos e2, if_pos e2] at k
          exact k (im_find hi)
        have kst : ¬ v 7 s = 0 → ¬ v 7 t = 0 → ¬ v 8 s = v 8 t → K (some (.int (-14))) (am_up D 49 51 4) L := fun e e2 e3 => by
          have k := hK (am_up D 49 51 4) (fo_up (by decide) (by decide) fo_rf)
          unfold gCopy qCopy at k
          rw [if_pos hx, if_pos hx, if_pos hz, if_pos hz, cN_nI (n := s) (by omega), cN_nI (n := t) (by omega), if_neg e, if_neg e, if_neg e2, if_neg e2, if_neg e3, if_neg e3] at k
          exact k (im_find hi)
        have kbad : ¬ v 7 s = 0 → ¬ v 7 t = 0 → v 8 s = v 8 t → ¬ (hld (nI p) y r = true ∧ hld (nI q) u r = true) → K (some (.int (-12))) (am_up D 49 51 2) L := fun e e2 e3 e4 => by
          have k := hK (am_up D 49 51 2) (fo_up (by decide) (by decide) fo_rf)
          unfold gCopy qCopy at k
          rw [if_pos hx, if_pos hx, if_pos hz, if_pos hz, cN_nI (n := s) (by omega), cN_nI (n := t) (by omega), if_neg e, if_neg e, if_neg e2, if_neg e2, if_pos e3, if_pos e3, ep, eq, if_neg e4, if_neg e4] at k
          exact k (im_find hi)
        have kgood : ¬ v 7 s = 0 → ¬ v 7 t = 0 → v 8 s = v 8 t → (hld (nI p) y r = true ∧ hld (nI q) u r = true) → ∀ D', fo D D' → im D' (gCp v s (cN y) t (cN u) (cN r)) → K (some (.int 1)) D' L := fun e e2 e3 e4 D' f => by
          have k := hK D' f
          unfold gCopy qCopy at k
          rw [if_pos hx, if_pos hx, if_pos hz, if_pos hz, cN_nI (n := s) (by omega), cN_nI (n := t) (by omega), if_neg e, if_neg e, if_neg e2, if_neg e2, if_pos e3, if_pos e3, ep, eq, if_pos e4, if_pos e4] at k
          exact k
        rw [ep] at w3
        rw [eq] at x3
        (repeat ((conv => whnf); (first | refine zo0 ?_ | refine zo1 ?_ | refine br_z ?_ | refine br_o ?_ | refine br_zn ?_ | refine br_on ?_ | refine nz2 ?_ | refine nz6 ?_ | refine nz32 ?_ | refine And.intro (by assumption) ?_))); (conv => whnf)
        rw [cs, w1]
        refine ⟨fun h1 => ?_, fun h1 => ?_⟩
        · (repeat ((conv => whnf); (first | refine zo0 ?_ | refine zo1 ?_ | refine br_z ?_ | refine br_o ?_ | refine br_zn ?_ | refine br_on ?_ | refine nz2 ?_ | refine nz6 ?_ | refine nz32 ?_ | refine And.intro (by assumption) ?_))); (conv => whnf)
          exact kn1 h1
        (repeat ((conv => whnf); (first | refine zo0 ?_ | refine zo1 ?_ | refine br_z ?_ | refine br_o ?_ | refine br_zn ?_ | refine br_on ?_ | refine nz2 ?_ | refine nz6 ?_ | refine nz32 ?_ | refine And.intro (by assumption) ?_))); (conv => whnf)
        rw [ct, x1]
        refine ⟨fun h2 => ?_, fun h2 => ?_⟩
        rotate_left
        · (repeat ((conv => whnf); (first | refine zo0 ?_ | refine zo1 ?_ | refine br_z ?_ | refine br_o ?_ | refine br_zn ?_ | refine br_on ?_ | refine nz2 ?_ | refine nz6 ?_ | refine nz32 ?_ | refine And.intro (by assumption) ?_))); (conv => whnf)
          exact kn2 h1 h2
        (repeat ((conv => whnf); (first | refine zo0 ?_ | refine zo1 ?_ | refine br_z ?_ | refine br_o ?_ | refine br_zn ?_ | refine br_on ?_ | refine nz2 ?_ | refine nz6 ?_ | refine nz32 ?_ | refine And.intro (by assumption) ?_))); (conv => whnf)
        rw [cs, ct, w2, x2]
        refine ⟨fun h3 => ?_, fun h3 => ?_⟩
        rotate_left
        · (repeat ((conv => whnf); (first | refine zo0 ?_ | refine zo1 ?_ | refine br_z ?_ | refine br_o ?_ | refine br_zn ?_ | refine br_on ?_ | refine nz2 ?_ | refine nz6 ?_ | refine nz32 ?_ | refine And.intro (by assumption) ?_))); (conv => whnf)
          exact kst h1 h2 h3
        (repeat ((conv => whnf); (first | refine zo0 ?_ | refine zo1 ?_ | refine br_z ?_ | refine br_o ?_ | refine br_zn ?_ | refine br_on ?_ | refine nz2 ?_ | refine nz6 ?_ | refine nz32 ?_ | refine And.intro (by assumption) ?_))); (conv => whnf)
        refine ⟨fun h4 => ?_, fun h4 => ?_⟩
        · (repeat ((conv => whnf); (first | refine zo0 ?_ | refine zo1 ?_ | refine br_z ?_ | refine br_o ?_ | refine br_zn ?_ | refine br_on ?_ | refine nz2 ?_ | refine nz6 ?_ | refine nz32 ?_ | refine And.intro (by assumption) ?_))); (conv => whnf)
          exact kbad h1 h2 h3 (fun e => by rw [hld_i h4] at e; exact absurd e.1 (by decide))
        (repeat ((conv => whnf); (first | refine zo0 ?_ | refine zo1 ?_ | refine br_z ?_ | refine br_o ?_ | refine br_zn ?_ | refine br_on ?_ | refine nz2 ?_ | refine nz6 ?_ | refine nz32 ?_ | refine And.intro (by assumption) ?_))); (conv => whnf)
        refine ⟨fun h5 => ?_, fun h5 => ?_⟩
        · (repeat ((conv => whnf); (first | refine zo0 ?_ | refine zo1 ?_ | refine br_z ?_ | refine br_o ?_ | refine br_zn ?_ | refine br_on ?_ | refine nz2 ?_ | refine nz6 ?_ | refine nz32 ?_ | refine And.intro (by assumption) ?_))); (conv => whnf)
          exact kbad h1 h2 h3 (fun e => by rw [hld_i h5] at e; exact absurd e.2 (by decide))
        (repeat ((conv => whnf); (first | refine zo0 ?_ | refine zo1 ?_ | refine br_z ?_ | refine br_o ?_ | refine br_zn ?_ | refine br_on ?_ | refine nz2 ?_ | refine nz6 ?_ | refine nz32 ?_ | refine And.intro (by assumption) ?_))); (conv => whnf)
        refine ⟨fun h6 => ?_, fun h6 => ?_⟩
        · (repeat ((conv => whnf); (first | refine zo0 ?_ | refine zo1 ?_ | refine br_z ?_ | refine br_o ?_ | refine br_zn ?_ | refine br_on ?_ | refine nz2 ?_ | refine nz6 ?_ | refine nz32 ?_ | refine And.intro (by assumption) ?_))); (conv => whnf)
          exact kbad h1 h2 h3 (fun e => by rw [hld_n h6] at e; exact absurd e.1 (by decide))
        obtain ⟨a, ha, ea⟩ := nI_of h4
        obtain ⟨b, hb, eb⟩ := nI_of h5
        obtain ⟨c, hc, ec⟩ := nI_of h6
        subst ea eb ec
        (repeat ((conv => whnf); (first | refine zo0 ?_ | refine zo1 ?_ | refine br_z ?_ | refine br_o ?_ | refine br_zn ?_ | refine br_on ?_ | refine nz2 ?_ | refine nz6 ?_ | refine nz32 ?_ | refine And.intro (by assumption) ?_))); (conv => whnf)
        rw [cs, w3, nle_lt, lc_gt (by omega) ha hc]
        refine ⟨fun h7 => ?_, fun h7 => ?_⟩
        · (repeat ((conv => whnf); (first | refine zo0 ?_ | refine zo1 ?_ | refine br_z ?_ | refine br_o ?_ | refine br_zn ?_ | refine br_on ?_ | refine nz2 ?_ | refine nz6 ?_ | refine nz32 ?_ | refine And.intro (by assumption) ?_))); (conv => whnf)
          exact kbad h1 h2 h3 (fun e => h7 ((hld_N (by omega) ha hc).mp e.1))
        have h7' : a + c ≤ p := Decidable.not_not.mp h7
        (repeat ((conv => whnf); (first | refine zo0 ?_ | refine zo1 ?_ | refine br_z ?_ | refine br_o ?_ | refine br_zn ?_ | refine br_on ?_ | refine nz2 ?_ | refine nz6 ?_ | refine nz32 ?_ | refine And.intro (by assumption) ?_))); (conv => whnf)
        rw [ct, x3, lc_gt (by omega) hb hc]
        refine ⟨fun h8 => ?_, fun h8 => ?_⟩
        rotate_left
        · (repeat ((conv => whnf); (first | refine zo0 ?_ | refine zo1 ?_ | refine br_z ?_ | refine br_o ?_ | refine br_zn ?_ | refine br_on ?_ | refine nz2 ?_ | refine nz6 ?_ | refine nz32 ?_ | refine And.intro (by assumption) ?_))); (conv => whnf)
          exact kbad h1 h2 h3 (fun e => h8 ((hld_N (by omega) hb hc).mp e.2))
        have kk := kgood h1 h2 h3 ⟨(hld_N (by omega) ha hc).mpr h7', (hld_N (by omega) hb hc).mpr h8⟩
        rw [cN_nI ha, cN_nI hb, cN_nI hc] at kk
        have two : ∀ (m i : Nat) (D' : am_D), i + m = c → fo D D' → (∀ k, k < c → D' 78 k = v 10 (60 * s + a + k)) → im D' (gCp v s a t b i) → am_Wp false 0 cdM_copy fnM_copy K 157 [some (.ref 49), some (.int (nI s)), some (.int (nI a)), some (.int (nI t)), some (.int (nI b)), some (.int (nI c)), some (.int (nI i))] [] D' L := by
          intro m
          induction m with
          | zero =>
            intro i D' hm f1 h78 j1
            refine am_Wp_bl mfM_copy [157] 20 _ _ _ _ _ ?_
            (repeat ((conv => whnf); (first | refine zo0 ?_ | refine zo1 ?_ | refine br_z ?_ | refine br_o ?_ | refine br_zn ?_ | refine br_on ?_ | refine nz2 ?_ | refine nz6 ?_ | refine nz32 ?_ | refine And.intro (by assumption) ?_))); (conv => whnf)
            refine ⟨fun h1 => ?_, fun h1 => absurd (nI_le (by omega) (by omega)) h1⟩
            (repeat ((conv => whnf); (first | refine zo0 ?_ | refine zo1 ?_ | refine br_z ?_ | refine br_o ?_ | refine br_zn ?_ | refine br_on ?_ | refine nz2 ?_ | refine nz6 ?_ | refine nz32 ?_ | refine And.intro (by assumption) ?_))); (conv => whnf)
            rw [show i = c by omega] at j1
            exact kk D' f1 j1
          | succ m ih =>
            intro i D' hm f1 h78 j1
            have e60 : (60 : Int32) * nI t + nI b + nI i = nI (60 * t + b + i) := by rw [show (60 : Int32) = nI 60 by decide +kernel, pk_mul, nI_add, nI_add]
            have i240 : vp_in (60 * nI t + nI b + nI i) 240 := by rw [e60]; exact vp_in_nI (by omega) (by decide)
            have c240 : (60 * nI t + nI b + nI i).toNatClampNeg = 60 * t + b + i := by rw [e60]; exact nI_clamp (by omega)
            have i60 : vp_in (nI i) 60 := vp_in_nI (by omega) (by decide)
            have ci : (nI i).toNatClampNeg = i := nI_clamp (by omega)
            refine am_Wp_bl mfM_copy [157] 40 _ _ _ _ _ ?_
            (repeat ((conv => whnf); (first | refine zo0 ?_ | refine zo1 ?_ | refine br_z ?_ | refine br_o ?_ | refine br_zn ?_ | refine br_on ?_ | refine nz2 ?_ | refine nz6 ?_ | refine nz32 ?_ | refine And.intro (by assumption) ?_))); (conv => whnf)
            refine ⟨fun h1 => absurd h1 (nI_ge (by omega) (by omega)), fun h1 => ?_⟩
            (repeat ((conv => whnf); (first | refine zo0 ?_ | refine zo1 ?_ | refine br_z ?_ | refine br_o ?_ | refine br_zn ?_ | refine br_on ?_ | refine nz2 ?_ | refine nz6 ?_ | refine nz32 ?_ | refine And.intro (by assumption) ?_))); (conv => whnf)
            rw [c240, ci, h78 i (by omega), nI_1]
            refine ih (i + 1) _ (by omega) (fo_up (by decide) (by decide) f1) (fun k hk => by rw [am_up_ne (by decide)]; exact h78 k hk) ?_
            rw [← gCp_s]
            exact im_item j1 (by omega)
        have one : ∀ (m i : Nat) (D' : am_D), i + m = c → (∀ k, k ≠ 78 → D' k = D k) → (∀ k, k < i → D' 78 k = v 10 (60 * s + a + k)) → am_Wp false 0 cdM_copy fnM_copy K 120 [some (.ref 49), some (.int (nI s)), some (.int (nI a)), some (.int (nI t)), some (.int (nI b)), some (.int (nI c)), some (.int (nI i))] [] D' L := by
          intro m
          induction m with
          | zero =>
            intro i D' hm f1 h78
            refine am_Wp_bl mfM_copy [157] 20 _ _ _ _ _ ?_
            (repeat ((conv => whnf); (first | refine zo0 ?_ | refine zo1 ?_ | refine br_z ?_ | refine br_o ?_ | refine br_zn ?_ | refine br_on ?_ | refine nz2 ?_ | refine nz6 ?_ | refine nz32 ?_ | refine And.intro (by assumption) ?_))); (conv => whnf)
            refine ⟨fun h1 => ?_, fun h1 => absurd (nI_le (by omega) (by omega)) h1⟩
            (repeat ((conv => whnf); (first | refine zo0 ?_ | refine zo1 ?_ | refine br_z ?_ | refine br_o ?_ | refine br_zn ?_ | refine br_on ?_ | refine nz2 ?_ | refine nz6 ?_ | refine nz32 ?_ | refine And.intro (by assumption) ?_))); (conv => whnf)
            refine two c 0 D' (by omega) (fun k hk => f1 k (by omega)) (fun k hk => h78 k (by omega)) ?_
            rw [gCp_0]
            refine im_fq hi ⟨fun k hk => f1 k (by omega), ?_, ?_, ?_⟩ <;> rw [f1 49 (by decide)]
          | succ m ih =>
            intro i D' hm f1 h78
            have e60 : (60 : Int32) * nI s + nI a + nI i = nI (60 * s + a + i) := by rw [show (60 : Int32) = nI 60 by decide +kernel, pk_mul, nI_add, nI_add]
            have i240 : vp_in (60 * nI s + nI a + nI i) 240 := by rw [e60]; exact vp_in_nI (by omega) (by decide)
            have c240 : (60 * nI s + nI a + nI i).toNatClampNeg = 60 * s + a + i := by rw [e60]; exact nI_clamp (by omega)
            have i60 : vp_in (nI i) 60 := vp_in_nI (by omega) (by decide)
            have ci : (nI i).toNatClampNeg = i := nI_clamp (by omega)
            refine am_Wp_bl mfM_copy [120] 40 _ _ _ _ _ ?_
            (repeat ((conv => whnf); (first | refine zo0 ?_ | refine zo1 ?_ | refine br_z ?_ | refine br_o ?_ | refine br_zn ?_ | refine br_on ?_ | refine nz2 ?_ | refine nz6 ?_ | refine nz32 ?_ | refine And.intro (by assumption) ?_))); (conv => whnf)
            refine ⟨fun h1 => absurd h1 (nI_ge (by omega) (by omega)), fun h1 => ?_⟩
            (repeat ((conv => whnf); (first | refine zo0 ?_ | refine zo1 ?_ | refine br_z ?_ | refine br_o ?_ | refine br_zn ?_ | refine br_on ?_ | refine nz2 ?_ | refine nz6 ?_ | refine nz32 ?_ | refine And.intro (by assumption) ?_))); (conv => whnf)
            rw [c240, ci, f1 77 (by decide), hi.2.2.2.2.2.2.2.2.2 _ (by omega), nI_1]
            refine ih (i + 1) _ (by omega) (fun k hk => by rw [am_up_ne hk]; exact f1 k hk) (fun k hk => ?_)
            rw [ap, if_pos rfl]
            by_cases e : k = i
            · rw [if_pos e, e]
            · rw [if_neg e]; exact h78 k (by omega)
        (repeat ((conv => whnf); (first | refine zo0 ?_ | refine zo1 ?_ | refine br_z ?_ | refine br_o ?_ | refine br_zn ?_ | refine br_on ?_ | refine nz2 ?_ | refine nz6 ?_ | refine nz32 ?_ | refine And.intro (by assumption) ?_))); (conv => whnf)
        exact one c 0 D (by omega) (fun _ _ => rfl) (fun k hk => absurd hk (by omega))
      · (repeat ((conv => whnf); (first | refine zo0 ?_ | refine zo1 ?_ | refine br_z ?_ | refine br_o ?_ | refine br_zn ?_ | refine br_on ?_ | refine nz2 ?_ | refine nz6 ?_ | refine nz32 ?_ | refine And.intro (by assumption) ?_))); (conv => whnf)
        have k := hK D fo_rf
        unfold gCopy qCopy at k
        rw [if_pos hx, if_pos hx, if_neg hz, if_neg hz] at k
        exact k hi
    · (repeat ((conv => whnf); (first | refine zo0 ?_ | refine zo1 ?_ | refine br_z ?_ | refine br_o ?_ | refine br_zn ?_ | refine br_on ?_ | refine nz2 ?_ | refine nz6 ?_ | refine nz32 ?_ | refine And.intro (by assumption) ?_))); (conv => whnf)
      have k := hK D fo_rf
      unfold gCopy qCopy at k
      rw [if_neg hx, if_neg hx] at k
      exact k hi
  · exact absurd h id
theorem clM_copy (l : Launch) : ∀ (a : Nat) (ins : Instr) (b dd : Nat), csM_copy[a]? = some (ins, b, dd) → am_Call l yM_copy.cls 2 ins b dd (fnM_copy a) := by
  intro a ins b dd h
  match a, h with
  | 0, h => cases h; exact am_callS (okM_isSheet l) wcM_isSheet (am_m5 (i := 96) rfl rfl) wtM_isSheet inM (by decide +kernel) (by decide) (by decide)
  | 1, h => cases h; exact am_callV (T := F_11) (N := 52) (okM_meets l) wcM_meets (am_m5 (i := 99) rfl rfl) wiM_meets wsM_meets inM rfl (by decide) (by decide +kernel) (by decide) (by decide)
  | k + 2, h => simp [csM_copy] at h
theorem okM_copy (l : Launch) : am_Ok l yM_copy prog_13_method_90_code 7 (some .int) 2 spM_copy := am_ok_of (by decide +kernel) flM_ok kiM_ok klM_ok ckM_copy (clM_copy l) wpM_copy
