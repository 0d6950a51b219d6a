def spJ_min : am_Sp := fun as D L K => match as with
  | [.int x, .int y] => K (some (.int (if y < x then y else x))) D L
  | _ => False
def spJ_max : am_Sp := fun as D L K => match as with
  | [.int x, .int y] => K (some (.int (if x < y then y else x))) D L
  | _ => False
def spJ_abs : am_Sp := fun as D L K => match as with
  | [.int x] => K (some (.int (if 0 ≤ x then x else 0 - x))) D L
  | _ => False
theorem moJ_min : am_mono spJ_min := by
  intro as D L K K' hK h
  unfold spJ_min at h ⊢
  split at h
  · exact hK _ _ _ h
  · exact h
theorem moJ_max : am_mono spJ_max := by
  intro as D L K K' hK h
  unfold spJ_max at h ⊢
  split at h
  · exact hK _ _ _ h
  · exact h
theorem moJ_abs : am_mono spJ_abs := by
  intro as D L K K' hK h
  unfold spJ_abs at h ⊢
  split at h
  · exact hK _ _ _ h
  · exact h
theorem am_callMin {l : Launch} {own : String} {d dd index : Nat} (hl : Cond.methodLink own index Lib.Math.min.name ∈ am_tbl) (hcode : Cond.code Lib.Math.min.name Lib.Math.min.code 2 (some .int) ∈ am_tbl) (hst : Cond.static Lib.Math.min.name ∈ am_tbl) (hini : Cond.initialized "java/lang/Math" ∈ am_tbl) (hd : 1 ≤ d) : am_Call l own d (.invokestatic index) 2 dd spJ_min := by
  intro p e R s m args below meth c cells slots Q cc nL ad dC dI cA n xs hR1 hR2 hR3 hR4 hi cx as D L K' H locs pc rls rest hS0 hlen hw8 hrec hR hS hsz hdec kk
  obtain ⟨hx, hb, hml', hown, hts, hK, hN⟩ := cx
  unfold spJ_min at hS0
  split at hS0
  · refine va_mmin hx hb (hml'.trans hsz.symm) hown (hts _ hl) (hts _ hst) (hts _ hini) (hts _ hcode) (by omega) ?_ hR3 hR4 hdec (kk _ D L H locs hS0 hR hS)
    have e6 := am_w8_sum ad rest
    show ((rest.map (am_c ad)).map fun v => v.category).sum + _ ≤ _
    omega
  · exact absurd hS0 id
theorem am_callMax {l : Launch} {own : String} {d dd index : Nat} (hl : Cond.methodLink own index Lib.Math.max.name ∈ am_tbl) (hcode : Cond.code Lib.Math.max.name Lib.Math.max.code 2 (some .int) ∈ am_tbl) (hst : Cond.static Lib.Math.max.name ∈ am_tbl) (hini : Cond.initialized "java/lang/Math" ∈ am_tbl) (hd : 1 ≤ d) : am_Call l own d (.invokestatic index) 2 dd spJ_max := by
  intro p e R s m args below meth c cells slots Q cc nL ad dC dI cA n xs hR1 hR2 hR3 hR4 hi cx as D L K' H locs pc rls rest hS0 hlen hw8 hrec hR hS hsz hdec kk
  obtain ⟨hx, hb, hml', hown, hts, hK, hN⟩ := cx
  unfold spJ_max at hS0
  split at hS0
  · refine va_mmax hx hb (hml'.trans hsz.symm) hown (hts _ hl) (hts _ hst) (hts _ hini) (hts _ hcode) (by omega) ?_ hR3 hR4 hdec (kk _ D L H locs hS0 hR hS)
    have e6 := am_w8_sum ad rest
    show ((rest.map (am_c ad)).map fun v => v.category).sum + _ ≤ _
    omega
  · exact absurd hS0 id
theorem am_callAbs {l : Launch} {own : String} {d dd index : Nat} (hl : Cond.methodLink own index Lib.Math.abs.name ∈ am_tbl) (hcode : Cond.code Lib.Math.abs.name Lib.Math.abs.code 1 (some .int) ∈ am_tbl) (hst : Cond.static Lib.Math.abs.name ∈ am_tbl) (hini : Cond.initialized "java/lang/Math" ∈ am_tbl) (hd : 1 ≤ d) : am_Call l own d (.invokestatic index) 1 dd spJ_abs := by
  intro p e R s m args below meth c cells slots Q cc nL ad dC dI cA n xs hR1 hR2 hR3 hR4 hi cx as D L K' H locs pc rls rest hS0 hlen hw8 hrec hR hS hsz hdec kk
  obtain ⟨hx, hb, hml', hown, hts, hK, hN⟩ := cx
  unfold spJ_abs at hS0
  split at hS0
  · refine va_mabs hx hb (hml'.trans hsz.symm) hown (hts _ hl) (hts _ hst) (hts _ hini) (hts _ hcode) (by omega) ?_ hR3 hR4 hdec (kk _ D L H locs hS0 hR hS)
    have e6 := am_w8_sum ad rest
    show ((rest.map (am_c ad)).map fun v => v.category).sum + _ ≤ _
    omega
  · exact absurd hS0 id
def fnJ_bitCount : Nat → am_Sp := fun _ => am_no
theorem mfJ_bitCount : ∀ a, am_mono (fnJ_bitCount a) := fun _ => am_no_mono
def bcnt (x : Int32) : Int32 :=
  let u (a k : Int32) : Int32 := (a.toUInt32 >>> (k.toUInt32 &&& Int32.toUInt32 31)).toInt32
  let a := x - (u x 1 &&& 1431655765)
  let b := (a &&& 858993459) + (u a 2 &&& 858993459)
  let c := b + u b 4 &&& 252645135
  let d := c + u c 8
  let e := d + u d 16
  e &&& 63
def spJ_bitCount : am_Sp := fun as D L K => match as with
  | [.int x] => K (some (.int (bcnt x))) D L
  | _ => False
theorem moJ_bitCount : am_mono spJ_bitCount := by
  intro as D L K K' hK h
  unfold spJ_bitCount at h ⊢
  split at h
  · exact hK _ _ _ h
  · exact h
theorem wpJ_bitCount : ∀ (as : List Value) (D : am_D) (L : am_L) (K : am_K), spJ_bitCount as D L K → am_fit 1 as = true ∧ am_Wp false 0 cdJ_bitCount fnJ_bitCount K 0 (am_lo 1 as) [] D L := by
  intro as D L K h
  unfold spJ_bitCount at h
  split at h
  · refine ⟨rfl, am_Wp_bl mfJ_bitCount [] 60 _ _ _ _ _ ?_⟩
    conv => whnf
    exact h
  · exact absurd h id
theorem clJ_bitCount (l : Launch) : ∀ (a : Nat) (ins : Instr) (b dd : Nat), csJ_bitCount[a]? = some (ins, b, dd) → am_Call l yJ_bitCount.cls 0 ins b dd (fnJ_bitCount a) := by
  intro a ins b dd h
  match a, h with
  | k + 0, h => simp [csJ_bitCount] at h
theorem okJ_bitCount (l : Launch) : am_Ok l yJ_bitCount prog_14_method_49_code 1 (some .int) 0 spJ_bitCount := am_ok_of (by decide +kernel) flJI_ok kiJI_ok klJI_ok ckJ_bitCount (clJ_bitCount l) wpJ_bitCount
def fnJ_fill : Nat → am_Sp := fun _ => am_no
theorem mfJ_fill : ∀ a, am_mono (fnJ_fill a) := fun _ => am_no_mono
def spJ_fill : am_Sp := fun as D L K => match as with
  | [.ref k, .int x] => am_tag k = 100 ∧ am_len k < 4000 ∧ K none (am_upA D k (fun j => if j < am_len k then x else D k j)) L
  | _ => False
theorem moJ_fill : am_mono spJ_fill := by
  intro as D L K K' hK h
  unfold spJ_fill at h ⊢
  split at h
  · exact ⟨h.1, h.2.1, hK _ _ _ h.2.2⟩
  · exact h
theorem wpJ_fill : ∀ (as : List Value) (D : am_D) (L : am_L) (K : am_K), spJ_fill as D L K → am_fit 4 as = true ∧ am_Wp false 0 cdJ_fill fnJ_fill K 0 (am_lo 4 as) [] D L := by
  intro as D L K h
  unfold spJ_fill at h
  split at h
  · rename_i k x
    obtain ⟨ht, hlen, hK⟩ := h
    refine ⟨rfl, ?_⟩
    have loop : ∀ (m i : Nat), i + m = am_len k → am_Wp false 0 cdJ_fill fnJ_fill K 5 [some (.ref k), some (.int x), some (.int (nI i)), some (.int (nI (am_len k)))] [] (am_upA D k (fun j => if j < i then x else D k j)) L := by
      intro m
      induction m with
      | zero =>
        intro i hi
        refine am_Wp_bl mfJ_fill [5] 20 _ _ _ _ _ ?_
        conv => whnf
        refine ⟨fun h1 => ?_, fun h1 => absurd (nI_le (by omega) (by omega)) h1⟩
        conv => whnf
        rw [show i = am_len k by omega]
        exact hK
      | succ m ih =>
        intro i hi
        refine am_Wp_bl mfJ_fill [5] 20 _ _ _ _ _ ?_
        conv => whnf
        refine ⟨fun h1 => absurd h1 (nI_ge (by omega) (by omega)), fun h1 => ?_⟩
        conv => whnf
        rw [ht]
        refine ⟨vp_in_nI (by omega) (by omega), ?_⟩
        conv => whnf
        have e := ih (i + 1) (by omega)
        rw [← nI_1] at e
        have e2 : am_up (am_upA D k fun j => if j < i then x else D k j) k (nI i).toNatClampNeg x = am_upA D k (fun j => if j < i + 1 then x else D k j) := by
          rw [nI_clamp (by omega)]
          funext q
          by_cases hq : q = k
          · subst hq
            simp only [am_up, am_upA, if_true]
            funext j
            unfold upd
            by_cases hj : j = i
            · subst hj; simp
            · rw [if_neg hj]
              dsimp only
              by_cases h2 : j < i
              · rw [if_pos h2, if_pos (by omega)]
              · rw [if_neg h2, if_neg (by omega)]
          · simp [am_up, am_upA, hq]
        rw [← e2] at e
        exact e
    refine am_Wp_bl mfJ_fill [5] 20 _ _ _ _ _ ?_
    conv => whnf
    rw [ht]
    conv => whnf
    have e := loop (am_len k) 0 (by omega)
    have e3 : am_upA D k (fun j => if j < 0 then x else D k j) = D := by
      funext q
      by_cases hq : q = k
      · subst hq; simp [am_upA]
      · simp [am_upA, hq]
    rw [e3] at e
    exact e
  · exact absurd h id
theorem clJ_fill (l : Launch) : ∀ (a : Nat) (ins : Instr) (b dd : Nat), csJ_fill[a]? = some (ins, b, dd) → am_Call l yJ_fill.cls 0 ins b dd (fnJ_fill a) := by
  intro a ins b dd h
  match a, h with
  | k + 0, h => simp [csJ_fill] at h
theorem okJ_fill (l : Launch) : am_Ok l yJ_fill prog_17_method_103_code 4 none 0 spJ_fill := am_ok_of (by decide +kernel) flJA_ok kiJA_ok klJA_ok ckJ_fill (clJ_fill l) wpJ_fill
