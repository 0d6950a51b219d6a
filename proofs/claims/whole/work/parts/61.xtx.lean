def fnT_add : Nat → am_Sp := fun _ => am_no
theorem mfT_add : ∀ a, am_mono (fnT_add a) := fun _ => am_no_mono
def spT_add : am_Sp := am_ini cdT_add fnT_add 34 2
theorem moT_add : am_mono spT_add := am_ini_mono mfT_add
theorem wpT_add : ∀ (as : List Value) (D : am_D) (L : am_L) (K : am_K), spT_add as D L K → am_fit 2 as = true ∧ am_Wp false 0 cdT_add fnT_add K 0 (am_lo 2 as) [] D L := am_ini_Wp mfT_add
theorem clT_add (l : Launch) : ∀ (a : Nat) (ins : Instr) (b dd : Nat), csT_add[a]? = some (ins, b, dd) → am_Call l yT_add.cls 0 ins b dd (fnT_add a) := by
  intro a ins b dd h
  match a, h with
  | k + 0, h => simp [csT_add] at h
theorem okT_add (l : Launch) : am_Ok l yT_add prog_10_method_2_code 2 (some .int) 0 spT_add := am_ok_of (by decide +kernel) flT_ok kiT_ok klT_ok ckT_add (clT_add l) wpT_add
def fnT_clear : Nat → am_Sp := fun _ => am_no
theorem mfT_clear : ∀ a, am_mono (fnT_clear a) := fun _ => am_no_mono
def spT_clear : am_Sp := am_ini cdT_clear fnT_clear 11 2
theorem moT_clear : am_mono spT_clear := am_ini_mono mfT_clear
theorem wpT_clear : ∀ (as : List Value) (D : am_D) (L : am_L) (K : am_K), spT_clear as D L K → am_fit 2 as = true ∧ am_Wp false 0 cdT_clear fnT_clear K 0 (am_lo 2 as) [] D L := am_ini_Wp mfT_clear
theorem clT_clear (l : Launch) : ∀ (a : Nat) (ins : Instr) (b dd : Nat), csT_clear[a]? = some (ins, b, dd) → am_Call l yT_clear.cls 0 ins b dd (fnT_clear a) := by
  intro a ins b dd h
  match a, h with
  | k + 0, h => simp [csT_clear] at h
theorem okT_clear (l : Launch) : am_Ok l yT_clear prog_10_method_3_code 2 (some .int) 0 spT_clear := am_ok_of (by decide +kernel) flT_ok kiT_ok klT_ok ckT_clear (clT_clear l) wpT_clear
def fnT_drop : Nat → am_Sp := fun _ => am_no
theorem mfT_drop : ∀ a, am_mono (fnT_drop a) := fun _ => am_no_mono
def spT_drop : am_Sp := am_ini cdT_drop fnT_drop 17 1
theorem moT_drop : am_mono spT_drop := am_ini_mono mfT_drop
theorem wpT_drop : ∀ (as : List Value) (D : am_D) (L : am_L) (K : am_K), spT_drop as D L K → am_fit 1 as = true ∧ am_Wp false 0 cdT_drop fnT_drop K 0 (am_lo 1 as) [] D L := am_ini_Wp mfT_drop
theorem clT_drop (l : Launch) : ∀ (a : Nat) (ins : Instr) (b dd : Nat), csT_drop[a]? = some (ins, b, dd) → am_Call l yT_drop.cls 0 ins b dd (fnT_drop a) := by
  intro a ins b dd h
  match a, h with
  | k + 0, h => simp [csT_drop] at h
theorem okT_drop (l : Launch) : am_Ok l yT_drop prog_10_method_4_code 1 (some .int) 0 spT_drop := am_ok_of (by decide +kernel) flT_ok kiT_ok klT_ok ckT_drop (clT_drop l) wpT_drop
def fnT_firstFault : Nat → am_Sp := fun _ => am_no
theorem mfT_firstFault : ∀ a, am_mono (fnT_firstFault a) := fun _ => am_no_mono
theorem vbad_f {t b : Nat} : vbad t b = false ↔ vlow t ≤ b ∧ b ≤ vhi t := by
  unfold vbad vlow vhi
  cases Nat.blt t 2 <;> simp
theorem vfI_none {v : vs_T} {t : Nat} (hv : vok v) (ht : t < 3) : vfI (vflt v t) = -1 ↔ vflt v t = none := by
  cases h : vflt v t with
  | none => exact ⟨fun _ => rfl, fun _ => rfl⟩
  | some j =>
    have h1 := vfl_lt _ _ _ h
    have h2 := (vok_len hv ht).2
    have h3 := vcap_le t
    exact ⟨fun q => absurd q (nI_m1 j (by omega)), fun q => by cases q⟩
def spT_firstFault : am_Sp := fun as D L K => match as with
  | [.ref k] => ∃ (v : vs_T) (t : Nat), vok v ∧ it D v ∧ ((k = 1 ∧ t = 0) ∨ (k = 3 ∧ t = 1) ∨ (k = 5 ∧ t = 2)) ∧ K (some (.int (vfI (vflt v t)))) D L
  | _ => False
theorem moT_firstFault : am_mono spT_firstFault := by
  intro as D L K K' hK h
  unfold spT_firstFault at h ⊢
  split at h
  · obtain ⟨z0, z1, z2, z3, z4, hz⟩ := h
    exact ⟨z0, z1, z2, z3, z4, hK _ _ _ hz⟩
  · exact h
theorem wpT_firstFault : ∀ (as : List Value) (D : am_D) (L : am_L) (K : am_K), spT_firstFault as D L K → am_fit 2 as = true ∧ am_Wp false 0 cdT_firstFault fnT_firstFault K 0 (am_lo 2 as) [] D L := by
  intro as D L K h
  unfold spT_firstFault at h
  split at h
  · obtain ⟨v, t, hv, hit, hk, hK⟩ := h
    rcases hk with ⟨rfl, rfl⟩ | ⟨rfl, rfl⟩ | ⟨rfl, rfl⟩
    · obtain ⟨t1, t2, t3, t4, t5⟩ := hit 0 (by decide)
      have q1 : D 1 2 = nI (vlow 0) := t2
      have q2 : D 1 3 = nI (vhi 0) := t3
      have q4 : D 1 4 = nI (vn v 0 0) := t4.trans (vok_len hv (by decide)).1
      have q5 : ∀ i, i < 24 → D 2 i = nI (vn v 1 (24 * 0 + i)) := fun i hi => (t5 i hi).trans (vok_byte hv (by omega)).1
      have ln := (vok_len hv (show 0 < 3 by decide)).2
      have l2 : vcap 0 ≤ 24 := vcap_le 0
      have loop : ∀ (m i : Nat), i + m = vn v 0 0 → vfl v 0 i m = vflt v 0 → am_Wp false 0 cdT_firstFault fnT_firstFault K 2 [some (.ref 1), some (.int (nI i))] [] D L := by
        intro m
        induction m with
        | zero =>
          intro i hi he
          refine am_Wp_bl mfT_firstFault [2] 20 _ _ _ _ _ ?_
          (repeat ((conv => whnf); (first | refine zo0 ?_ | refine zo1 ?_ | refine br_z ?_ | refine br_o ?_ | refine br_zn ?_ | refine br_on ?_ | refine nz2 ?_ | refine nz6 ?_ | refine nz32 ?_ | refine And.intro (by assumption) ?_))); (conv => whnf)
          rw [q4]
          refine ⟨fun h1 => ?_, fun h1 => absurd (nI_le (by omega) (by omega)) h1⟩
          (repeat ((conv => whnf); (first | refine zo0 ?_ | refine zo1 ?_ | refine br_z ?_ | refine br_o ?_ | refine br_zn ?_ | refine br_on ?_ | refine nz2 ?_ | refine nz6 ?_ | refine nz32 ?_ | refine And.intro (by assumption) ?_))); (conv => whnf)
          rw [← he] at hK
          exact hK
        | succ m ih =>
          intro i hi he
          have ec : (nI i).toNatClampNeg = i := nI_clamp (by omega)
          have hin : vp_in (nI i) 24 := vp_in_nI (by omega) (by decide)
          have hb := (vok_byte hv (show 24 * 0 + i < 72 by omega)).2
          have lw : vlow 0 ≤ 97 := by decide
          have hh : vhi 0 ≤ 108 := by decide
          have bd : ¬ (vlow 0 ≤ vn v 1 (24 * 0 + i) ∧ vn v 1 (24 * 0 + i) ≤ vhi 0) → K (some (.int (nI i))) D L := fun q => by
            rw [vfl, if_pos (by
              cases e : vbad 0 (vn v 1 (24 * 0 + i)) with
              | true => rfl
              | false => exact absurd (vbad_f.mp e) q)] at he
            rw [← he] at hK
            exact hK
          refine am_Wp_bl mfT_firstFault [2] 60 _ _ _ _ _ ?_
          (repeat ((conv => whnf); (first | refine zo0 ?_ | refine zo1 ?_ | refine br_z ?_ | refine br_o ?_ | refine br_zn ?_ | refine br_on ?_ | refine nz2 ?_ | refine nz6 ?_ | refine nz32 ?_ | refine And.intro (by assumption) ?_))); (conv => whnf)
          rw [q4]
          refine ⟨fun h1 => absurd h1 (nI_ge (by omega) (by omega)), fun h1 => ?_⟩
          (repeat ((conv => whnf); (first | refine zo0 ?_ | refine zo1 ?_ | refine br_z ?_ | refine br_o ?_ | refine br_zn ?_ | refine br_on ?_ | refine nz2 ?_ | refine nz6 ?_ | refine nz32 ?_ | refine And.intro (by assumption) ?_))); (conv => whnf)
          refine ⟨fun h1 => absurd h1 (nI_ge (b := 24) (by omega) (by omega)), fun h1 => ?_⟩
          (repeat ((conv => whnf); (first | refine zo0 ?_ | refine zo1 ?_ | refine br_z ?_ | refine br_o ?_ | refine br_zn ?_ | refine br_on ?_ | refine nz2 ?_ | refine nz6 ?_ | refine nz32 ?_ | refine And.intro (by assumption) ?_))); (conv => whnf)
          rw [ec, q5 i (by omega), q1, nI_ltI (by omega) (by omega)]
          refine ⟨fun h2 => ?_, fun h2 => ?_⟩
          · (repeat ((conv => whnf); (first | refine zo0 ?_ | refine zo1 ?_ | refine br_z ?_ | refine br_o ?_ | refine br_zn ?_ | refine br_on ?_ | refine nz2 ?_ | refine nz6 ?_ | refine nz32 ?_ | refine And.intro (by assumption) ?_))); (conv => whnf)
            exact bd (by omega)
          (repeat ((conv => whnf); (first | refine zo0 ?_ | refine zo1 ?_ | refine br_z ?_ | refine br_o ?_ | refine br_zn ?_ | refine br_on ?_ | refine nz2 ?_ | refine nz6 ?_ | refine nz32 ?_ | refine And.intro (by assumption) ?_))); (conv => whnf)
          rw [ec, q5 i (by omega), q2, nI_leI (by omega) (by omega)]
          refine ⟨fun h3 => ?_, fun h3 => ?_⟩
          · (repeat ((conv => whnf); (first | refine zo0 ?_ | refine zo1 ?_ | refine br_z ?_ | refine br_o ?_ | refine br_zn ?_ | refine br_on ?_ | refine nz2 ?_ | refine nz6 ?_ | refine nz32 ?_ | refine And.intro (by assumption) ?_))); (conv => whnf)
            rw [nI_1]
            refine ih (i + 1) (by omega) ?_
            rw [vfl, if_neg (by rw [vbad_f.mpr ⟨by omega, h3⟩]; decide)] at he
            exact he
          · (repeat ((conv => whnf); (first | refine zo0 ?_ | refine zo1 ?_ | refine br_z ?_ | refine br_o ?_ | refine br_zn ?_ | refine br_on ?_ | refine nz2 ?_ | refine nz6 ?_ | refine nz32 ?_ | refine And.intro (by assumption) ?_))); (conv => whnf)
            exact bd (by omega)
      refine ⟨rfl, am_Wp_bl mfT_firstFault [2] 20 _ _ _ _ _ ?_⟩
      (repeat ((conv => whnf); (first | refine zo0 ?_ | refine zo1 ?_ | refine br_z ?_ | refine br_o ?_ | refine br_zn ?_ | refine br_on ?_ | refine nz2 ?_ | refine nz6 ?_ | refine nz32 ?_ | refine And.intro (by assumption) ?_))); (conv => whnf)
      exact loop _ 0 (by omega) rfl
    · obtain ⟨t1, t2, t3, t4, t5⟩ := hit 1 (by decide)
      have q1 : D 3 2 = nI (vlow 1) := t2
      have q2 : D 3 3 = nI (vhi 1) := t3
      have q4 : D 3 4 = nI (vn v 0 1) := t4.trans (vok_len hv (by decide)).1
      have q5 : ∀ i, i < 24 → D 4 i = nI (vn v 1 (24 * 1 + i)) := fun i hi => (t5 i hi).trans (vok_byte hv (by omega)).1
      have ln := (vok_len hv (show 1 < 3 by decide)).2
      have l2 : vcap 1 ≤ 24 := vcap_le 1
      have loop : ∀ (m i : Nat), i + m = vn v 0 1 → vfl v 1 i m = vflt v 1 → am_Wp false 0 cdT_firstFault fnT_firstFault K 2 [some (.ref 3), some (.int (nI i))] [] D L := by
        intro m
        induction m with
        | zero =>
          intro i hi he
          refine am_Wp_bl mfT_firstFault [2] 20 _ _ _ _ _ ?_
          (repeat ((conv => whnf); (first | refine zo0 ?_ | refine zo1 ?_ | refine br_z ?_ | refine br_o ?_ | refine br_zn ?_ | refine br_on ?_ | refine nz2 ?_ | refine nz6 ?_ | refine nz32 ?_ | refine And.intro (by assumption) ?_))); (conv => whnf)
          rw [q4]
          refine ⟨fun h1 => ?_, fun h1 => absurd (nI_le (by omega) (by omega)) h1⟩
          (repeat ((conv => whnf); (first | refine zo0 ?_ | refine zo1 ?_ | refine br_z ?_ | refine br_o ?_ | refine br_zn ?_ | refine br_on ?_ | refine nz2 ?_ | refine nz6 ?_ | refine nz32 ?_ | refine And.intro (by assumption) ?_))); (conv => whnf)
          rw [← he] at hK
          exact hK
        | succ m ih =>
          intro i hi he
          have ec : (nI i).toNatClampNeg = i := nI_clamp (by omega)
          have hin : vp_in (nI i) 24 := vp_in_nI (by omega) (by decide)
          have hb := (vok_byte hv (show 24 * 1 + i < 72 by omega)).2
          have lw : vlow 1 ≤ 97 := by decide
          have hh : vhi 1 ≤ 108 := by decide
          have bd : ¬ (vlow 1 ≤ vn v 1 (24 * 1 + i) ∧ vn v 1 (24 * 1 + i) ≤ vhi 1) → K (some (.int (nI i))) D L := fun q => by
            rw [vfl, if_pos (by
              cases e : vbad 1 (vn v 1 (24 * 1 + i)) with
              | true => rfl
              | false => exact absurd (vbad_f.mp e) q)] at he
            rw [← he] at hK
            exact hK
          refine am_Wp_bl mfT_firstFault [2] 60 _ _ _ _ _ ?_
          (repeat ((conv => whnf); (first | refine zo0 ?_ | refine zo1 ?_ | refine br_z ?_ | refine br_o ?_ | refine br_zn ?_ | refine br_on ?_ | refine nz2 ?_ | refine nz6 ?_ | refine nz32 ?_ | refine And.intro (by assumption) ?_))); (conv => whnf)
          rw [q4]
          refine ⟨fun h1 => absurd h1 (nI_ge (by omega) (by omega)), fun h1 => ?_⟩
          (repeat ((conv => whnf); (first | refine zo0 ?_ | refine zo1 ?_ | refine br_z ?_ | refine br_o ?_ | refine br_zn ?_ | refine br_on ?_ | refine nz2 ?_ | refine nz6 ?_ | refine nz32 ?_ | refine And.intro (by assumption) ?_))); (conv => whnf)
          refine ⟨fun h1 => absurd h1 (nI_ge (b := 24) (by omega) (by omega)), fun h1 => ?_⟩
          (repeat ((conv => whnf); (first | refine zo0 ?_ | refine zo1 ?_ | refine br_z ?_ | refine br_o ?_ | refine br_zn ?_ | refine br_on ?_ | refine nz2 ?_ | refine nz6 ?_ | refine nz32 ?_ | refine And.intro (by assumption) ?_))); (conv => whnf)
          rw [ec, q5 i (by omega), q1, nI_ltI (by omega) (by omega)]
          refine ⟨fun h2 => ?_, fun h2 => ?_⟩
          · (repeat ((conv => whnf); (first | refine zo0 ?_ | refine zo1 ?_ | refine br_z ?_ | refine br_o ?_ | refine br_zn ?_ | refine br_on ?_ | refine nz2 ?_ | refine nz6 ?_ | refine nz32 ?_ | refine And.intro (by assumption) ?_))); (conv => whnf)
            exact bd (by omega)
          (repeat ((conv => whnf); (first | refine zo0 ?_ | refine zo1 ?_ | refine br_z ?_ | refine br_o ?_ | refine br_zn ?_ | refine br_on ?_ | refine nz2 ?_ | refine nz6 ?_ | refine nz32 ?_ | refine And.intro (by assumption) ?_))); (conv => whnf)
          rw [ec, q5 i (by omega), q2, nI_leI (by omega) (by omega)]
          refine ⟨fun h3 => ?_, fun h3 => ?_⟩
          · (repeat ((conv => whnf); (first | refine zo0 ?_ | refine zo1 ?_ | refine br_z ?_ | refine br_o ?_ | refine br_zn ?_ | refine br_on ?_ | refine nz2 ?_ | refine nz6 ?_ | refine nz32 ?_ | refine And.intro (by assumption) ?_))); (conv => whnf)
            rw [nI_1]
            refine ih (i + 1) (by omega) ?_
            rw [vfl, if_neg (by rw [vbad_f.mpr ⟨by omega, h3⟩]; decide)] at he
            exact he
          · (repeat ((conv => whnf); (first | refine zo0 ?_ | refine zo1 ?_ | refine br_z ?_ | refine br_o ?_ | refine br_zn ?_ | refine br_on ?_ | refine nz2 ?_ | refine nz6 ?_ | refine nz32 ?_ | refine And.intro (by assumption) ?_))); (conv => whnf)
            exact bd (by omega)
      refine ⟨rfl, am_Wp_bl mfT_firstFault [2] 20 _ _ _ _ _ ?_⟩
      (repeat ((conv => whnf); (first | refine zo0 ?_ | refine zo1 ?_ | refine br_z ?_ | refine br_o ?_ | refine br_zn ?_ | refine br_on ?_ | refine nz2 ?_ | refine nz6 ?_ | refine nz32 ?_ | refine And.intro (by assumption) ?_))); (conv => whnf)
      exact loop _ 0 (by omega) rfl
    · obtain ⟨t1, t2, t3, t4, t5⟩ := hit 2 (by decide)
      have q1 : D 5 2 = nI (vlow 2) := t2
      have q2 : D 5 3 = nI (vhi 2) := t3
      have q4 : D 5 4 = nI (vn v 0 2) := t4.trans (vok_len hv (by decide)).1
      have q5 : ∀ i, i < 24 → D 6 i = nI (vn v 1 (24 * 2 + i)) := fun i hi => (t5 i hi).trans (vok_byte hv (by omega)).1
      have ln := (vok_len hv (show 2 < 3 by decide)).2
      have l2 : vcap 2 ≤ 24 := vcap_le 2
      have loop : ∀ (m i : Nat), i + m = vn v 0 2 → vfl v 2 i m = vflt v 2 → am_Wp false 0 cdT_firstFault fnT_firstFault K 2 [some (.ref 5), some (.int (nI i))] [] D L := by
        intro m
        induction m with
        | zero =>
          intro i hi he
          refine am_Wp_bl mfT_firstFault [2] 20 _ _ _ _ _ ?_
          (repeat ((conv => whnf); (first | refine zo0 ?_ | refine zo1 ?_ | refine br_z ?_ | refine br_o ?_ | refine br_zn ?_ | refine br_on ?_ | refine nz2 ?_ | refine nz6 ?_ | refine nz32 ?_ | refine And.intro (by assumption) ?_))); (conv => whnf)
          rw [q4]
          refine ⟨fun h1 => ?_, fun h1 => absurd (nI_le (by omega) (by omega)) h1⟩
          (repeat ((conv => whnf); (first | refine zo0 ?_ | refine zo1 ?_ | refine br_z ?_ | refine br_o ?_ | refine br_zn ?_ | refine br_on ?_ | refine nz2 ?_ | refine nz6 ?_ | refine nz32 ?_ | refine And.intro (by assumption) ?_))); (conv => whnf)
          rw [← he] at hK
          exact hK
        | succ m ih =>
          intro i hi he
          have ec : (nI i).toNatClampNeg = i := nI_clamp (by omega)
          have hin : vp_in (nI i) 24 := vp_in_nI (by omega) (by decide)
          have hb := (vok_byte hv (show 24 * 2 + i < 72 by omega)).2
          have lw : vlow 2 ≤ 97 := by decide
          have hh : vhi 2 ≤ 108 := by decide
          have bd : ¬ (vlow 2 ≤ vn v 1 (24 * 2 + i) ∧ vn v 1 (24 * 2 + i) ≤ vhi 2) → K (some (.int (nI i))) D L := fun q => by
            rw [vfl, if_pos (by
              cases e : vbad 2 (vn v 1 (24 * 2 + i)) with
              | true => rfl
              | false => exact absurd (vbad_f.mp e) q)] at he
            rw [← he] at hK
            exact hK
          refine am_Wp_bl mfT_firstFault [2] 60 _ _ _ _ _ ?_
          (repeat ((conv => whnf); (first | refine zo0 ?_ | refine zo1 ?_ | refine br_z ?_ | refine br_o ?_ | refine br_zn ?_ | refine br_on ?_ | refine nz2 ?_ | refine nz6 ?_ | refine nz32 ?_ | refine And.intro (by assumption) ?_))); (conv => whnf)
          rw [q4]
          refine ⟨fun h1 => absurd h1 (nI_ge (by omega) (by omega)), fun h1 => ?_⟩
          (repeat ((conv => whnf); (first | refine zo0 ?_ | refine zo1 ?_ | refine br_z ?_ | refine br_o ?_ | refine br_zn ?_ | refine br_on ?_ | refine nz2 ?_ | refine nz6 ?_ | refine nz32 ?_ | refine And.intro (by assumption) ?_))); (conv => whnf)
          refine ⟨fun h1 => absurd h1 (nI_ge (b := 24) (by omega) (by omega)), fun h1 => ?_⟩
          (repeat ((conv => whnf); (first | refine zo0 ?_ | refine zo1 ?_ | refine br_z ?_ | refine br_o ?_ | refine br_zn ?_ | refine br_on ?_ | refine nz2 ?_ | refine nz6 ?_ | refine nz32 ?_ | refine And.intro (by assumption) ?_))); (conv => whnf)
          rw [ec, q5 i (by omega), q1, nI_ltI (by omega) (by omega)]
          refine ⟨fun h2 => ?_, fun h2 => ?_⟩
          · (repeat ((conv => whnf); (first | refine zo0 ?_ | refine zo1 ?_ | refine br_z ?_ | refine br_o ?_ | refine br_zn ?_ | refine br_on ?_ | refine nz2 ?_ | refine nz6 ?_ | refine nz32 ?_ | refine And.intro (by assumption) ?_))); (conv => whnf)
            exact bd (by omega)
          (repeat ((conv => whnf); (first | refine zo0 ?_ | refine zo1 ?_ | refine br_z ?_ | refine br_o ?_ | refine br_zn ?_ | refine br_on ?_ | refine nz2 ?_ | refine nz6 ?_ | refine nz32 ?_ | refine And.intro (by assumption) ?_))); (conv => whnf)
          rw [ec, q5 i (by omega), q2, nI_leI (by omega) (by omega)]
          refine ⟨fun h3 => ?_, fun h3 => ?_⟩
          · (repeat ((conv => whnf); (first | refine zo0 ?_ | refine zo1 ?_ | refine br_z ?_ | refine br_o ?_ | refine br_zn ?_ | refine br_on ?_ | refine nz2 ?_ | refine nz6 ?_ | refine nz32 ?_ | refine And.intro (by assumption) ?_))); (conv => whnf)
            rw [nI_1]
            refine ih (i + 1) (by omega) ?_
            rw [vfl, if_neg (by rw [vbad_f.mpr ⟨by omega, h3⟩]; decide)] at he
            exact he
          · (repeat ((conv => whnf); (first | refine zo0 ?_ | refine zo1 ?_ | refine br_z ?_ | refine br_o ?_ | refine br_zn ?_ | refine br_on ?_ | refine nz2 ?_ | refine nz6 ?_ | refine nz32 ?_ | refine And.intro (by assumption) ?_))); (conv => whnf)
            exact bd (by omega)
      refine ⟨rfl, am_Wp_bl mfT_firstFault [2] 20 _ _ _ _ _ ?_⟩
      (repeat ((conv => whnf); (first | refine zo0 ?_ | refine zo1 ?_ | refine br_z ?_ | refine br_o ?_ | refine br_zn ?_ | refine br_on ?_ | refine nz2 ?_ | refine nz6 ?_ | refine nz32 ?_ | refine And.intro (by assumption) ?_))); (conv => whnf)
      exact loop _ 0 (by omega) rfl
  · exact absurd h id
theorem clT_firstFault (l : Launch) : ∀ (a : Nat) (ins : Instr) (b dd : Nat), csT_firstFault[a]? = some (ins, b, dd) → am_Call l yT_firstFault.cls 0 ins b dd (fnT_firstFault a) := by
  intro a ins b dd h
  match a, h with
  | k + 0, h => simp [csT_firstFault] at h
theorem okT_firstFault (l : Launch) : am_Ok l yT_firstFault prog_10_method_5_code 2 (some .int) 0 spT_firstFault := am_ok_of (by decide +kernel) flT_ok kiT_ok klT_ok ckT_firstFault (clT_firstFault l) wpT_firstFault
def fnT_spell : Nat → am_Sp := fun a => match a with
  | 0 => spT_firstFault
  | _ => am_no
theorem mfT_spell : ∀ a, am_mono (fnT_spell a) := fun a => match a with
  | 0 => moT_firstFault
  | _ + 1 => am_no_mono
def spT_spell : am_Sp := fun as D L K => match as with
  | [.ref k, .ref r] => ∃ (v : vs_T) (t : Nat), vok v ∧ it D v ∧ ((k = 1 ∧ r = 15 ∧ t = 0) ∨ (k = 3 ∧ r = 16 ∧ t = 1) ∨ (k = 5 ∧ r = 17 ∧ t = 2)) ∧ ∀ D', (∀ q, q ≠ r → D' q = D q) → (∀ i, i < am_len r → D' r i = nI (vmean v t i)) → K (some (.int (nI (vlen v t)))) D' L
  | _ => False
theorem moT_spell : am_mono spT_spell := by
  intro as D L K K' hK h
  unfold spT_spell at h ⊢
  split at h
  · obtain ⟨z0, z1, z2, z3, z4, hz⟩ := h
    exact ⟨z0, z1, z2, z3, z4, fun D' q1 q2 => hK _ _ _ (hz D' q1 q2)⟩
  · exact h
theorem wpT_spell : ∀ (as : List Value) (D : am_D) (L : am_L) (K : am_K), spT_spell as D L K → am_fit 4 as = true ∧ am_Wp false 0 cdT_spell fnT_spell K 0 (am_lo 4 as) [] D L := by
  intro as D L K h
  unfold spT_spell at h
  split at h
  · obtain ⟨v, t, hv, hit, hk, hK⟩ := h
    rcases hk with ⟨rfl, rfl, rfl⟩ | ⟨rfl, rfl, rfl⟩ | ⟨rfl, rfl, rfl⟩
    · obtain ⟨t1, t2, t3, t4, t5⟩ := hit 0 (by decide)
      have q1 : D 1 2 = nI (vlow 0) := t2
      have q4 : D 1 4 = nI (vn v 0 0) := t4.trans (vok_len hv (by decide)).1
      have q5 : ∀ i, i < 24 → D 2 i = nI (vn v 1 (24 * 0 + i)) := fun i hi => (t5 i hi).trans (vok_byte hv (by omega)).1
      have lv := vlen_le hv (show 0 < 3 by decide)
      have l2 : vcap 0 ≤ 24 := vcap_le 0
      have hK' : ∀ D', (∀ q, q ≠ 15 → D' q = D q) → (∀ i, i < 12 → D' 15 i = nI (vmean v 0 i)) → K (some (.int (nI (vlen v 0)))) D' L := hK
      have loop : ∀ (m i : Nat) (D' : am_D), i + m = 12 → (∀ q, q ≠ 15 → D' q = D q) → (∀ j, j < i → D' 15 j = nI (vmean v 0 j)) → am_Wp false 0 cdT_spell fnT_spell K 19 [some (.ref 1), some (.ref 15), some (.int (nI (vlen v 0))), some (.int (nI i))] [] D' L := by
        intro m
        induction m with
        | zero =>
          intro i D' hi f h0
          refine am_Wp_bl mfT_spell [19] 30 _ _ _ _ _ ?_
          (repeat ((conv => whnf); (first | refine zo0 ?_ | refine zo1 ?_ | refine br_z ?_ | refine br_o ?_ | refine br_zn ?_ | refine br_on ?_ | refine nz2 ?_ | refine nz6 ?_ | refine nz32 ?_ | refine And.intro (by assumption) ?_))); (conv => whnf)
          refine ⟨fun h1 => ?_, fun h1 => absurd (nI_le (a := 12) (by omega) (by omega)) h1⟩
          (repeat ((conv => whnf); (first | refine zo0 ?_ | refine zo1 ?_ | refine br_z ?_ | refine br_o ?_ | refine br_zn ?_ | refine br_on ?_ | refine nz2 ?_ | refine nz6 ?_ | refine nz32 ?_ | refine And.intro (by assumption) ?_))); (conv => whnf)
          exact hK' D' f (fun j hj => h0 j (by omega))
        | succ m ih =>
          intro i D' hi f h0
          have ec : (nI i).toNatClampNeg = i := nI_clamp (by omega)
          have hin : vp_in (nI i) 24 := vp_in_nI (by omega) (by decide)
          have hin2 : vp_in (nI i) 12 := vp_in_nI (by omega) (by decide)
          have nx : ∀ x : Int32, x = nI (vmean v 0 i) → am_Wp false 0 cdT_spell fnT_spell K 19 [some (.ref 1), some (.ref 15), some (.int (nI (vlen v 0))), some (.int (nI (i + 1)))] [] (am_up D' 15 i x) L := by
            intro x hx
            refine ih (i + 1) _ (by omega) (fun q hq => by rw [am_up_ne hq]; exact f q hq) (fun j hj => ?_)
            rw [ap, if_pos rfl]
            by_cases e : j = i
            · rw [if_pos e, e]; exact hx
            · rw [if_neg e]; exact h0 j (by omega)
          refine am_Wp_bl mfT_spell [19] 60 _ _ _ _ _ ?_
          (repeat ((conv => whnf); (first | refine zo0 ?_ | refine zo1 ?_ | refine br_z ?_ | refine br_o ?_ | refine br_zn ?_ | refine br_on ?_ | refine nz2 ?_ | refine nz6 ?_ | refine nz32 ?_ | refine And.intro (by assumption) ?_))); (conv => whnf)
          refine ⟨fun h1 => absurd h1 (nI_ge (b := 12) (by omega) (by omega)), fun h1 => ?_⟩
          (repeat ((conv => whnf); (first | refine zo0 ?_ | refine zo1 ?_ | refine br_z ?_ | refine br_o ?_ | refine br_zn ?_ | refine br_on ?_ | refine nz2 ?_ | refine nz6 ?_ | refine nz32 ?_ | refine And.intro (by assumption) ?_))); (conv => whnf)
          refine ⟨fun h1 => absurd h1 (nI_ge (b := 24) (by omega) (by omega)), fun h1 => ?_⟩
          (repeat ((conv => whnf); (first | refine zo0 ?_ | refine zo1 ?_ | refine br_z ?_ | refine br_o ?_ | refine br_zn ?_ | refine br_on ?_ | refine nz2 ?_ | refine nz6 ?_ | refine nz32 ?_ | refine And.intro (by assumption) ?_))); (conv => whnf)
          rw [nI_leI (by omega) (by omega)]
          refine ⟨fun h2 => ?_, fun h2 => ?_⟩
          · (repeat ((conv => whnf); (first | refine zo0 ?_ | refine zo1 ?_ | refine br_z ?_ | refine br_o ?_ | refine br_zn ?_ | refine br_on ?_ | refine nz2 ?_ | refine nz6 ?_ | refine nz32 ?_ | refine And.intro (by assumption) ?_))); (conv => whnf)
            rw [ec, nI_1]
            refine nx 0 ?_
            unfold vmean
            rw [if_neg (by omega), nI_0]
          · (repeat ((conv => whnf); (first | refine zo0 ?_ | refine zo1 ?_ | refine br_z ?_ | refine br_o ?_ | refine br_zn ?_ | refine br_on ?_ | refine nz2 ?_ | refine nz6 ?_ | refine nz32 ?_ | refine And.intro (by assumption) ?_))); (conv => whnf)
            rw [ec, nI_1, f 2 (by decide), f 1 (by decide), q5 i (by omega), q1]
            have g := vbad_f.mp (vlen_good (show i < vlen v 0 by omega))
            refine nx _ ?_
            unfold vmean
            rw [if_pos (by omega), pk_sub g.1]
      refine ⟨rfl, am_Wp_bl mfT_spell [19] 30 _ _ _ _ _ ?_⟩
      (repeat ((conv => whnf); (first | refine zo0 ?_ | refine zo1 ?_ | refine br_z ?_ | refine br_o ?_ | refine br_zn ?_ | refine br_on ?_ | refine nz2 ?_ | refine nz6 ?_ | refine nz32 ?_ | refine And.intro (by assumption) ?_))); (conv => whnf)
      refine ⟨v, 0, hv, hit, Or.inl ⟨rfl, rfl⟩, ?_⟩
      (repeat ((conv => whnf); (first | refine zo0 ?_ | refine zo1 ?_ | refine br_z ?_ | refine br_o ?_ | refine br_zn ?_ | refine br_on ?_ | refine nz2 ?_ | refine nz6 ?_ | refine nz32 ?_ | refine And.intro (by assumption) ?_))); (conv => whnf)
      refine ⟨fun h1 => ?_, fun h1 => ?_⟩
      · have e : vlen v 0 = 0 := by
          unfold vlen
          rw [if_neg (fun q => h1 ((vfI_none hv (by decide)).mpr q))]
        rw [e] at loop
        (repeat ((conv => whnf); (first | refine zo0 ?_ | refine zo1 ?_ | refine br_z ?_ | refine br_o ?_ | refine br_zn ?_ | refine br_on ?_ | refine nz2 ?_ | refine nz6 ?_ | refine nz32 ?_ | refine And.intro (by assumption) ?_))); (conv => whnf)
        exact loop 12 0 D (by omega) (fun _ _ => rfl) (fun j hj => absurd hj (by omega))
      · have e : vlen v 0 = vn v 0 0 := by
          unfold vlen
          rw [if_pos ((vfI_none hv (by decide)).mp h1)]
        rw [e] at loop
        (repeat ((conv => whnf); (first | refine zo0 ?_ | refine zo1 ?_ | refine br_z ?_ | refine br_o ?_ | refine br_zn ?_ | refine br_on ?_ | refine nz2 ?_ | refine nz6 ?_ | refine nz32 ?_ | refine And.intro (by assumption) ?_))); (conv => whnf)
        rw [q4]
        exact loop 12 0 D (by omega) (fun _ _ => rfl) (fun j hj => absurd hj (by omega))
    · obtain ⟨t1, t2, t3, t4, t5⟩ := hit 1 (by decide)
      have q1 : D 3 2 = nI (vlow 1) := t2
      have q4 : D 3 4 = nI (vn v 0 1) := t4.trans (vok_len hv (by decide)).1
      have q5 : ∀ i, i < 24 → D 4 i = nI (vn v 1 (24 * 1 + i)) := fun i hi => (t5 i hi).trans (vok_byte hv (by omega)).1
      have lv := vlen_le hv (show 1 < 3 by decide)
      have l2 : vcap 1 ≤ 24 := vcap_le 1
      have hK' : ∀ D', (∀ q, q ≠ 16 → D' q = D q) → (∀ i, i < 12 → D' 16 i = nI (vmean v 1 i)) → K (some (.int (nI (vlen v 1)))) D' L := hK
      have loop : ∀ (m i : Nat) (D' : am_D), i + m = 12 → (∀ q, q ≠ 16 → D' q = D q) → (∀ j, j < i → D' 16 j = nI (vmean v 1 j)) → am_Wp false 0 cdT_spell fnT_spell K 19 [some (.ref 3), some (.ref 16), some (.int (nI (vlen v 1))), some (.int (nI i))] [] D' L := by
        intro m
        induction m with
        | zero =>
          intro i D' hi f h0
          refine am_Wp_bl mfT_spell [19] 30 _ _ _ _ _ ?_
          (repeat ((conv => whnf); (first | refine zo0 ?_ | refine zo1 ?_ | refine br_z ?_ | refine br_o ?_ | refine br_zn ?_ | refine br_on ?_ | refine nz2 ?_ | refine nz6 ?_ | refine nz32 ?_ | refine And.intro (by assumption) ?_))); (conv => whnf)
          refine ⟨fun h1 => ?_, fun h1 => absurd (nI_le (a := 12) (by omega) (by omega)) h1⟩
          (repeat ((conv => whnf); (first | refine zo0 ?_ | refine zo1 ?_ | refine br_z ?_ | refine br_o ?_ | refine br_zn ?_ | refine br_on ?_ | refine nz2 ?_ | refine nz6 ?_ | refine nz32 ?_ | refine And.intro (by assumption) ?_))); (conv => whnf)
          exact hK' D' f (fun j hj => h0 j (by omega))
        | succ m ih =>
          intro i D' hi f h0
          have ec : (nI i).toNatClampNeg = i := nI_clamp (by omega)
          have hin : vp_in (nI i) 24 := vp_in_nI (by omega) (by decide)
          have hin2 : vp_in (nI i) 12 := vp_in_nI (by omega) (by decide)
          have nx : ∀ x : Int32, x = nI (vmean v 1 i) → am_Wp false 0 cdT_spell fnT_spell K 19 [some (.ref 3), some (.ref 16), some (.int (nI (vlen v 1))), some (.int (nI (i + 1)))] [] (am_up D' 16 i x) L := by
            intro x hx
            refine ih (i + 1) _ (by omega) (fun q hq => by rw [am_up_ne hq]; exact f q hq) (fun j hj => ?_)
            rw [ap, if_pos rfl]
            by_cases e : j = i
            · rw [if_pos e, e]; exact hx
            · rw [if_neg e]; exact h0 j (by omega)
          refine am_Wp_bl mfT_spell [19] 60 _ _ _ _ _ ?_
          (repeat ((conv => whnf); (first | refine zo0 ?_ | refine zo1 ?_ | refine br_z ?_ | refine br_o ?_ | refine br_zn ?_ | refine br_on ?_ | refine nz2 ?_ | refine nz6 ?_ | refine nz32 ?_ | refine And.intro (by assumption) ?_))); (conv => whnf)
          refine ⟨fun h1 => absurd h1 (nI_ge (b := 12) (by omega) (by omega)), fun h1 => ?_⟩
          (repeat ((conv => whnf); (first | refine zo0 ?_ | refine zo1 ?_ | refine br_z ?_ | refine br_o ?_ | refine br_zn ?_ | refine br_on ?_ | refine nz2 ?_ | refine nz6 ?_ | refine nz32 ?_ | refine And.intro (by assumption) ?_))); (conv => whnf)
          refine ⟨fun h1 => absurd h1 (nI_ge (b := 24) (by omega) (by omega)), fun h1 => ?_⟩
          (repeat ((conv => whnf); (first | refine zo0 ?_ | refine zo1 ?_ | refine br_z ?_ | refine br_o ?_ | refine br_zn ?_ | refine br_on ?_ | refine nz2 ?_ | refine nz6 ?_ | refine nz32 ?_ | refine And.intro (by assumption) ?_))); (conv => whnf)
          rw [nI_leI (by omega) (by omega)]
          refine ⟨fun h2 => ?_, fun h2 => ?_⟩
          · (repeat ((conv => whnf); (first | refine zo0 ?_ | refine zo1 ?_ | refine br_z ?_ | refine br_o ?_ | refine br_zn ?_ | refine br_on ?_ | refine nz2 ?_ | refine nz6 ?_ | refine nz32 ?_ | refine And.intro (by assumption) ?_))); (conv => whnf)
            rw [ec, nI_1]
            refine nx 0 ?_
            unfold vmean
            rw [if_neg (by omega), nI_0]
          · (repeat ((conv => whnf); (first | refine zo0 ?_ | refine zo1 ?_ | refine br_z ?_ | refine br_o ?_ | refine br_zn ?_ | refine br_on ?_ | refine nz2 ?_ | refine nz6 ?_ | refine nz32 ?_ | refine And.intro (by assumption) ?_))); (conv => whnf)
            rw [ec, nI_1, f 4 (by decide), f 3 (by decide), q5 i (by omega), q1]
            have g := vbad_f.mp (vlen_good (show i < vlen v 1 by omega))
            refine nx _ ?_
            unfold vmean
            rw [if_pos (by omega), pk_sub g.1]
      refine ⟨rfl, am_Wp_bl mfT_spell [19] 30 _ _ _ _ _ ?_⟩
      (repeat ((conv => whnf); (first | refine zo0 ?_ | refine zo1 ?_ | refine br_z ?_ | refine br_o ?_ | refine br_zn ?_ | refine br_on ?_ | refine nz2 ?_ | refine nz6 ?_ | refine nz32 ?_ | refine And.intro (by assumption) ?_))); (conv => whnf)
      refine ⟨v, 1, hv, hit, Or.inr (Or.inl ⟨rfl, rfl⟩), ?_⟩
      (repeat ((conv => whnf); (first | refine zo0 ?_ | refine zo1 ?_ | refine br_z ?_ | refine br_o ?_ | refine br_zn ?_ | refine br_on ?_ | refine nz2 ?_ | refine nz6 ?_ | refine nz32 ?_ | refine And.intro (by assumption) ?_))); (conv => whnf)
      refine ⟨fun h1 => ?_, fun h1 => ?_⟩
      · have e : vlen v 1 = 0 := by
          unfold vlen
          rw [if_neg (fun q => h1 ((vfI_none hv (by decide)).mpr q))]
        rw [e] at loop
        (repeat ((conv => whnf); (first | refine zo0 ?_ | refine zo1 ?_ | refine br_z ?_ | refine br_o ?_ | refine br_zn ?_ | refine br_on ?_ | refine nz2 ?_ | refine nz6 ?_ | refine nz32 ?_ | refine And.intro (by assumption) ?_))); (conv => whnf)
        exact loop 12 0 D (by omega) (fun _ _ => rfl) (fun j hj => absurd hj (by omega))
      · have e : vlen v 1 = vn v 0 1 := by
          unfold vlen
          rw [if_pos ((vfI_none hv (by decide)).mp h1)]
        rw [e] at loop
        (repeat ((conv => whnf); (first | refine zo0 ?_ | refine zo1 ?_ | refine br_z ?_ | refine br_o ?_ | refine br_zn ?_ | refine br_on ?_ | refine nz2 ?_ | refine nz6 ?_ | refine nz32 ?_ | refine And.intro (by assumption) ?_))); (conv => whnf)
        rw [q4]
        exact loop 12 0 D (by omega) (fun _ _ => rfl) (fun j hj => absurd hj (by omega))
    · obtain ⟨t1, t2, t3, t4, t5⟩ := hit 2 (by decide)
      have q1 : D 5 2 = nI (vlow 2) := t2
      have q4 : D 5 4 = nI (vn v 0 2) := t4.trans (vok_len hv (by decide)).1
      have q5 : ∀ i, i < 24 → D 6 i = nI (vn v 1 (24 * 2 + i)) := fun i hi => (t5 i hi).trans (vok_byte hv (by omega)).1
      have lv := vlen_le hv (show 2 < 3 by decide)
      have l2 : vcap 2 ≤ 24 := vcap_le 2
      have hK' : ∀ D', (∀ q, q ≠ 17 → D' q = D q) → (∀ i, i < 24 → D' 17 i = nI (vmean v 2 i)) → K (some (.int (nI (vlen v 2)))) D' L := hK
      have loop : ∀ (m i : Nat) (D' : am_D), i + m = 24 → (∀ q, q ≠ 17 → D' q = D q) → (∀ j, j < i → D' 17 j = nI (vmean v 2 j)) → am_Wp false 0 cdT_spell fnT_spell K 19 [some (.ref 5), some (.ref 17), some (.int (nI (vlen v 2))), some (.int (nI i))] [] D' L := by
        intro m
        induction m with
        | zero =>
          intro i D' hi f h0
          refine am_Wp_bl mfT_spell [19] 30 _ _ _ _ _ ?_
          (repeat ((conv => whnf); (first | refine zo0 ?_ | refine zo1 ?_ | refine br_z ?_ | refine br_o ?_ | refine br_zn ?_ | refine br_on ?_ | refine nz2 ?_ | refine nz6 ?_ | refine nz32 ?_ | refine And.intro (by assumption) ?_))); (conv => whnf)
          refine ⟨fun h1 => ?_, fun h1 => absurd (nI_le (a := 24) (by omega) (by omega)) h1⟩
          (repeat ((conv => whnf); (first | refine zo0 ?_ | refine zo1 ?_ | refine br_z ?_ | refine br_o ?_ | refine br_zn ?_ | refine br_on ?_ | refine nz2 ?_ | refine nz6 ?_ | refine nz32 ?_ | refine And.intro (by assumption) ?_))); (conv => whnf)
          exact hK' D' f (fun j hj => h0 j (by omega))
        | succ m ih =>
          intro i D' hi f h0
          have ec : (nI i).toNatClampNeg = i := nI_clamp (by omega)
          have hin : vp_in (nI i) 24 := vp_in_nI (by omega) (by decide)
          have hin2 : vp_in (nI i) 24 := vp_in_nI (by omega) (by decide)
          have nx : ∀ x : Int32, x = nI (vmean v 2 i) → am_Wp false 0 cdT_spell fnT_spell K 19 [some (.ref 5), some (.ref 17), some (.int (nI (vlen v 2))), some (.int (nI (i + 1)))] [] (am_up D' 17 i x) L := by
            intro x hx
            refine ih (i + 1) _ (by omega) (fun q hq => by rw [am_up_ne hq]; exact f q hq) (fun j hj => ?_)
            rw [ap, if_pos rfl]
            by_cases e : j = i
            · rw [if_pos e, e]; exact hx
            · rw [if_neg e]; exact h0 j (by omega)
          refine am_Wp_bl mfT_spell [19] 60 _ _ _ _ _ ?_
          (repeat ((conv => whnf); (first | refine zo0 ?_ | refine zo1 ?_ | refine br_z ?_ | refine br_o ?_ | refine br_zn ?_ | refine br_on ?_ | refine nz2 ?_ | refine nz6 ?_ | refine nz32 ?_ | refine And.intro (by assumption) ?_))); (conv => whnf)
          refine ⟨fun h1 => absurd h1 (nI_ge (b := 24) (by omega) (by omega)), fun h1 => ?_⟩
          (repeat ((conv => whnf); (first | refine zo0 ?_ | refine zo1 ?_ | refine br_z ?_ | refine br_o ?_ | refine br_zn ?_ | refine br_on ?_ | refine nz2 ?_ | refine nz6 ?_ | refine nz32 ?_ | refine And.intro (by assumption) ?_))); (conv => whnf)
          refine ⟨fun h1 => absurd h1 (nI_ge (b := 24) (by omega) (by omega)), fun h1 => ?_⟩
          (repeat ((conv => whnf); (first | refine zo0 ?_ | refine zo1 ?_ | refine br_z ?_ | refine br_o ?_ | refine br_zn ?_ | refine br_on ?_ | refine nz2 ?_ | refine nz6 ?_ | refine nz32 ?_ | refine And.intro (by assumption) ?_))); (conv => whnf)
          rw [nI_leI (by omega) (by omega)]
          refine ⟨fun h2 => ?_, fun h2 => ?_⟩
          · (repeat ((conv => whnf); (first | refine zo0 ?_ | refine zo1 ?_ | refine br_z ?_ | refine br_o ?_ | refine br_zn ?_ | refine br_on ?_ | refine nz2 ?_ | refine nz6 ?_ | refine nz32 ?_ | refine And.intro (by assumption) ?_))); (conv => whnf)
            rw [ec, nI_1]
            refine nx 0 ?_
            unfold vmean
            rw [if_neg (by omega), nI_0]
          · (repeat ((conv => whnf); (first | refine zo0 ?_ | refine zo1 ?_ | refine br_z ?_ | refine br_o ?_ | refine br_zn ?_ | refine br_on ?_ | refine nz2 ?_ | refine nz6 ?_ | refine nz32 ?_ | refine And.intro (by assumption) ?_))); (conv => whnf)
            rw [ec, nI_1, f 6 (by decide), f 5 (by decide), q5 i (by omega), q1]
            have g := vbad_f.mp (vlen_good (show i < vlen v 2 by omega))
            refine nx _ ?_
            unfold vmean
            rw [if_pos (by omega), pk_sub g.1]
      refine ⟨rfl, am_Wp_bl mfT_spell [19] 30 _ _ _ _ _ ?_⟩
      (repeat ((conv => whnf); (first | refine zo0 ?_ | refine zo1 ?_ | refine br_z ?_ | refine br_o ?_ | refine br_zn ?_ | refine br_on ?_ | refine nz2 ?_ | refine nz6 ?_ | refine nz32 ?_ | refine And.intro (by assumption) ?_))); (conv => whnf)
      refine ⟨v, 2, hv, hit, Or.inr (Or.inr ⟨rfl, rfl⟩), ?_⟩
      (repeat ((conv => whnf); (first | refine zo0 ?_ | refine zo1 ?_ | refine br_z ?_ | refine br_o ?_ | refine br_zn ?_ | refine br_on ?_ | refine nz2 ?_ | refine nz6 ?_ | refine nz32 ?_ | refine And.intro (by assumption) ?_))); (conv => whnf)
      refine ⟨fun h1 => ?_, fun h1 => ?_⟩
      · have e : vlen v 2 = 0 := by
          unfold vlen
          rw [if_neg (fun q => h1 ((vfI_none hv (by decide)).mpr q))]
        rw [e] at loop
        (repeat ((conv => whnf); (first | refine zo0 ?_ | refine zo1 ?_ | refine br_z ?_ | refine br_o ?_ | refine br_zn ?_ | refine br_on ?_ | refine nz2 ?_ | refine nz6 ?_ | refine nz32 ?_ | refine And.intro (by assumption) ?_))); (conv => whnf)
        exact loop 24 0 D (by omega) (fun _ _ => rfl) (fun j hj => absurd hj (by omega))
      · have e : vlen v 2 = vn v 0 2 := by
          unfold vlen
          rw [if_pos ((vfI_none hv (by decide)).mp h1)]
        rw [e] at loop
        (repeat ((conv => whnf); (first | refine zo0 ?_ | refine zo1 ?_ | refine br_z ?_ | refine br_o ?_ | refine br_zn ?_ | refine br_on ?_ | refine nz2 ?_ | refine nz6 ?_ | refine nz32 ?_ | refine And.intro (by assumption) ?_))); (conv => whnf)
        rw [q4]
        exact loop 24 0 D (by omega) (fun _ _ => rfl) (fun j hj => absurd hj (by omega))
  · exact absurd h id
theorem clT_spell (l : Launch) : ∀ (a : Nat) (ins : Instr) (b dd : Nat), csT_spell[a]? = some (ins, b, dd) → am_Call l yT_spell.cls 1 ins b dd (fnT_spell a) := by
  intro a ins b dd h
  match a, h with
  | 0, h => cases h; exact am_callV (T := F_8) (N := 5) (okT_firstFault l) wcT_firstFault (am_m2 (i := 166) rfl rfl) wiT_firstFault wsT_firstFault inT rfl (by decide) (by decide +kernel) (by decide) (by decide)
  | k + 1, h => simp [csT_spell] at h
theorem okT_spell (l : Launch) : am_Ok l yT_spell prog_10_method_6_code 4 (some .int) 1 spT_spell := am_ok_of (by decide +kernel) flT_ok kiT_ok klT_ok ckT_spell (clT_spell l) wpT_spell
def fnX_textOf : Nat → am_Sp := fun _ => am_no
theorem mfX_textOf : ∀ a, am_mono (fnX_textOf a) := fun _ => am_no_mono
def spX_textOf : am_Sp := fun as D L K => match as with
  | [.ref 0, .int x] => (x = 0 → K (some (.ref 1)) D L) ∧ (x = 1 → K (some (.ref 3)) D L) ∧ (x = 2 → K (some (.ref 5)) D L) ∧ (¬ (0 ≤ x ∧ x ≤ 2) → K (some .null) D L)
  | _ => False
theorem moX_textOf : am_mono spX_textOf := by
  intro as D L K K' hK h
  unfold spX_textOf at h ⊢
  split at h
  · exact ⟨fun q => hK _ _ _ (h.1 q), fun q => hK _ _ _ (h.2.1 q), fun q => hK _ _ _ (h.2.2.1 q), fun q => hK _ _ _ (h.2.2.2 q)⟩
  · exact h
theorem wpX_textOf : ∀ (as : List Value) (D : am_D) (L : am_L) (K : am_K), spX_textOf as D L K → am_fit 2 as = true ∧ am_Wp false 0 cdX_textOf fnX_textOf K 0 (am_lo 2 as) [] D L := by
  intro as D L K h
  unfold spX_textOf at h
  split at h
  · rename_i x
    obtain ⟨k0, k1, k2, k3⟩ := h
    refine ⟨rfl, am_Wp_bl mfX_textOf [] 40 _ _ _ _ _ ?_⟩
    (repeat ((conv => whnf); (first | refine zo0 ?_ | refine zo1 ?_ | refine br_z ?_ | refine br_o ?_ | refine br_zn ?_ | refine br_on ?_ | refine nz2 ?_ | refine nz6 ?_ | refine nz32 ?_ | refine And.intro (by assumption) ?_))); (conv => whnf)
    refine ⟨fun h0 => ?_, fun h0 => ?_⟩
    · (repeat ((conv => whnf); (first | refine zo0 ?_ | refine zo1 ?_ | refine br_z ?_ | refine br_o ?_ | refine br_zn ?_ | refine br_on ?_ | refine nz2 ?_ | refine nz6 ?_ | refine nz32 ?_ | refine And.intro (by assumption) ?_))); (conv => whnf)
      refine ⟨fun h1 => ?_, fun h1 => ?_⟩
      · (repeat ((conv => whnf); (first | refine zo0 ?_ | refine zo1 ?_ | refine br_z ?_ | refine br_o ?_ | refine br_zn ?_ | refine br_on ?_ | refine nz2 ?_ | refine nz6 ?_ | refine nz32 ?_ | refine And.intro (by assumption) ?_))); (conv => whnf)
        refine ⟨fun h2 => ?_, fun h2 => ?_⟩
        · (repeat ((conv => whnf); (first | refine zo0 ?_ | refine zo1 ?_ | refine br_z ?_ | refine br_o ?_ | refine br_zn ?_ | refine br_on ?_ | refine nz2 ?_ | refine nz6 ?_ | refine nz32 ?_ | refine And.intro (by assumption) ?_))); (conv => whnf)
          refine k3 (fun q => ?_)
          obtain ⟨a, ha, ea⟩ := rg_nI (n := 2) (by decide) q
          rcases (show a = 0 ∨ a = 1 ∨ a = 2 by omega) with rfl | rfl | rfl
          · exact h0 (ea.trans nI_0)
          · exact h1 (ea.trans nc1)
          · exact h2 (ea.trans nc2)
        · (repeat ((conv => whnf); (first | refine zo0 ?_ | refine zo1 ?_ | refine br_z ?_ | refine br_o ?_ | refine br_zn ?_ | refine br_on ?_ | refine nz2 ?_ | refine nz6 ?_ | refine nz32 ?_ | refine And.intro (by assumption) ?_))); (conv => whnf)
          exact k2 h2
      · (repeat ((conv => whnf); (first | refine zo0 ?_ | refine zo1 ?_ | refine br_z ?_ | refine br_o ?_ | refine br_zn ?_ | refine br_on ?_ | refine nz2 ?_ | refine nz6 ?_ | refine nz32 ?_ | refine And.intro (by assumption) ?_))); (conv => whnf)
        exact k1 h1
    · (repeat ((conv => whnf); (first | refine zo0 ?_ | refine zo1 ?_ | refine br_z ?_ | refine br_o ?_ | refine br_zn ?_ | refine br_on ?_ | refine nz2 ?_ | refine nz6 ?_ | refine nz32 ?_ | refine And.intro (by assumption) ?_))); (conv => whnf)
      exact k0 h0
  · exact absurd h id
theorem clX_textOf (l : Launch) : ∀ (a : Nat) (ins : Instr) (b dd : Nat), csX_textOf[a]? = some (ins, b, dd) → am_Call l yX_textOf.cls 0 ins b dd (fnX_textOf a) := by
  intro a ins b dd h
  match a, h with
  | k + 0, h => simp [csX_textOf] at h
theorem okX_textOf (l : Launch) : am_Ok l yX_textOf prog_1_method_44_code 2 (some (.object "MilkHorse$Text")) 0 spX_textOf := am_ok_of (by decide +kernel) flX_ok kiX_ok klX_ok ckX_textOf (clX_textOf l) wpX_textOf
def fnX_forgetMornings : Nat → am_Sp := fun _ => am_no
theorem mfX_forgetMornings : ∀ a, am_mono (fnX_forgetMornings a) := fun _ => am_no_mono
def fk (D D' : am_D) : Prop := ∀ k, k ≠ 27 → k ≠ 32 → k ≠ 33 → k ≠ 34 → k ≠ 35 → k ≠ 36 → D' k = D k
def spX_forgetMornings : am_Sp := fun as D L K => match as with
  | [.ref 0] => ∀ D', fk D D' → ic0 D' → K none D' L
  | _ => False
theorem moX_forgetMornings : am_mono spX_forgetMornings := by
  intro as D L K K' hK h
  unfold spX_forgetMornings at h ⊢
  split at h
  · exact fun D' q1 q2 => hK _ _ _ (h D' q1 q2)
  · exact h
theorem wpX_forgetMornings : ∀ (as : List Value) (D : am_D) (L : am_L) (K : am_K), spX_forgetMornings as D L K → am_fit 1 as = true ∧ am_Wp false 0 cdX_forgetMornings fnX_forgetMornings K 0 (am_lo 1 as) [] D L := by
  intro as D L K h
  unfold spX_forgetMornings at h
  split at h
  · refine ⟨rfl, am_Wp_bl mfX_forgetMornings [] 60 _ _ _ _ _ ?_⟩
    (repeat ((conv => whnf); (first | refine zo0 ?_ | refine zo1 ?_ | refine br_z ?_ | refine br_o ?_ | refine br_zn ?_ | refine br_on ?_ | refine nz2 ?_ | refine nz6 ?_ | refine nz32 ?_ | refine And.intro (by assumption) ?_))); (conv => whnf)
    refine h _ (fun k h1 h2 h3 h4 h5 h6 => ?_) ?_
    · rw [am_up_ne h6, am_up_ne h5, am_up_ne h4, am_up_ne h3, am_up_ne h2, am_up_ne h1]
    · refine ⟨?_, ?_, ?_, ?_, ?_, ?_⟩ <;> simp [ap]
  · exact absurd h id
theorem clX_forgetMornings (l : Launch) : ∀ (a : Nat) (ins : Instr) (b dd : Nat), csX_forgetMornings[a]? = some (ins, b, dd) → am_Call l yX_forgetMornings.cls 0 ins b dd (fnX_forgetMornings a) := by
  intro a ins b dd h
  match a, h with
  | k + 0, h => simp [csX_forgetMornings] at h
theorem okX_forgetMornings (l : Launch) : am_Ok l yX_forgetMornings prog_1_method_48_code 1 none 0 spX_forgetMornings := am_ok_of (by decide +kernel) flX_ok kiX_ok klX_ok ckX_forgetMornings (clX_forgetMornings l) wpX_forgetMornings
def fnX_hearTexts : Nat → am_Sp := fun a => match a with
  | 0 => spT_spell
  | 1 => spX_forgetMornings
  | _ => am_no
theorem mfX_hearTexts : ∀ a, am_mono (fnX_hearTexts a) := fun a => match a with
  | 0 => moT_spell
  | 1 => moX_forgetMornings
  | _ + 2 => am_no_mono
def fh (D D' : am_D) : Prop := (∀ k, (k < 14 ∨ 17 < k) → k ≠ 27 → k ≠ 32 → k ≠ 33 → k ≠ 34 → k ≠ 35 → k ≠ 36 → D' k = D k) ∧ ∀ j, j ≠ 3 → D' 14 j = D 14 j
def spX_hearTexts : am_Sp := fun as D L K => match as with
  | [.ref 0] => ∃ v : vs_T, vok v ∧ it D v ∧ ∀ D', fh D D' → ic0 D' → D' 14 3 = nI (vlen v 2) → (∀ d, d < 12 → D' 15 d = nI (vmean v 0 d) ∧ D' 16 d = nI (vmean v 1 d)) → (∀ i, i < 24 → D' 17 i = nI (vmean v 2 i)) → K none D' L
  | _ => False
theorem moX_hearTexts : am_mono spX_hearTexts := by
  intro as D L K K' hK h
  unfold spX_hearTexts at h ⊢
  split at h
  · obtain ⟨z0, z1, z2, hz⟩ := h
    exact ⟨z0, z1, z2, fun D' q1 q2 q3 q4 q5 => hK _ _ _ (hz D' q1 q2 q3 q4 q5)⟩
  · exact h
theorem wpX_hearTexts : ∀ (as : List Value) (D : am_D) (L : am_L) (K : am_K), spX_hearTexts as D L K → am_fit 1 as = true ∧ am_Wp false 0 cdX_hearTexts fnX_hearTexts K 0 (am_lo 1 as) [] D L := by
  intro as D L K h
  unfold spX_hearTexts at h
  split at h
  · obtain ⟨v, hv, hit, hK⟩ := h
    refine ⟨rfl, am_Wp_bl mfX_hearTexts [] 60 _ _ _ _ _ ?_⟩
    (repeat ((conv => whnf); (first | refine zo0 ?_ | refine zo1 ?_ | refine br_z ?_ | refine br_o ?_ | refine br_zn ?_ | refine br_on ?_ | refine nz2 ?_ | refine nz6 ?_ | refine nz32 ?_ | refine And.intro (by assumption) ?_))); (conv => whnf)
    refine ⟨v, 0, hv, hit, Or.inl ⟨rfl, rfl, rfl⟩, fun D1 f1' m1 => ?_⟩
    have f1 : ∀ q, q ≠ 15 → D1 q = D q := f1'
    have it1 : it D1 v := it_fr hit (fun k _ _ => f1 k (by omega))
    (repeat ((conv => whnf); (first | refine zo0 ?_ | refine zo1 ?_ | refine br_z ?_ | refine br_o ?_ | refine br_zn ?_ | refine br_on ?_ | refine nz2 ?_ | refine nz6 ?_ | refine nz32 ?_ | refine And.intro (by assumption) ?_))); (conv => whnf)
    refine ⟨v, 1, hv, it1, Or.inr (Or.inl ⟨rfl, rfl, rfl⟩), fun D2 f2' m2 => ?_⟩
    have f2 : ∀ q, q ≠ 16 → D2 q = D1 q := f2'
    have it2 : it D2 v := it_fr it1 (fun k _ _ => f2 k (by omega))
    (repeat ((conv => whnf); (first | refine zo0 ?_ | refine zo1 ?_ | refine br_z ?_ | refine br_o ?_ | refine br_zn ?_ | refine br_on ?_ | refine nz2 ?_ | refine nz6 ?_ | refine nz32 ?_ | refine And.intro (by assumption) ?_))); (conv => whnf)
    refine ⟨v, 2, hv, it2, Or.inr (Or.inr ⟨rfl, rfl, rfl⟩), fun D3 f3' m3 => ?_⟩
    have f3 : ∀ q, q ≠ 17 → D3 q = D2 q := f3'
    (repeat ((conv => whnf); (first | refine zo0 ?_ | refine zo1 ?_ | refine br_z ?_ | refine br_o ?_ | refine br_zn ?_ | refine br_on ?_ | refine nz2 ?_ | refine nz6 ?_ | refine nz32 ?_ | refine And.intro (by assumption) ?_))); (conv => whnf)
    intro D4 f4 c4
    (repeat ((conv => whnf); (first | refine zo0 ?_ | refine zo1 ?_ | refine br_z ?_ | refine br_o ?_ | refine br_zn ?_ | refine br_on ?_ | refine nz2 ?_ | refine nz6 ?_ | refine nz32 ?_ | refine And.intro (by assumption) ?_))); (conv => whnf)
    refine hK D4 ⟨fun k h0 h1 h2 h3 h4 h5 h6 => ?_, fun j hj => ?_⟩ c4 ?_ (fun d hd => ⟨?_, ?_⟩) (fun i hi => ?_)
    · rw [f4 k h1 h2 h3 h4 h5 h6, am_up_ne (by omega), f3 k (by omega), f2 k (by omega), f1 k (by omega)]
    · rw [f4 14 (by decide) (by decide) (by decide) (by decide) (by decide) (by decide), ap, if_pos rfl, if_neg hj, f3 14 (by decide), f2 14 (by decide), f1 14 (by decide)]
    · rw [f4 14 (by decide) (by decide) (by decide) (by decide) (by decide) (by decide), ap, if_pos rfl, if_pos rfl]
    · rw [f4 15 (by decide) (by decide) (by decide) (by decide) (by decide) (by decide), am_up_ne (by decide), f3 15 (by decide), f2 15 (by decide)]
      exact m1 d hd
    · rw [f4 16 (by decide) (by decide) (by decide) (by decide) (by decide) (by decide), am_up_ne (by decide), f3 16 (by decide)]
      exact m2 d hd
    · rw [f4 17 (by decide) (by decide) (by decide) (by decide) (by decide) (by decide), am_up_ne (by decide)]
      exact m3 i hi
  · exact absurd h id
theorem clX_hearTexts (l : Launch) : ∀ (a : Nat) (ins : Instr) (b dd : Nat), csX_hearTexts[a]? = some (ins, b, dd) → am_Call l yX_hearTexts.cls 2 ins b dd (fnX_hearTexts a) := by
  intro a ins b dd h
  match a, h with
  | 0, h => cases h; exact am_callV (T := F_8) (N := 5) (okT_spell l) wcT_spell (am_m2 (i := 162) rfl rfl) wiT_spell wsT_spell inT rfl (by decide) (by decide +kernel) (by decide) (by decide)
  | 1, h => cases h; exact am_callV (T := F_10) (N := 17) (okX_forgetMornings l) wcX_forgetMornings (am_m2 (i := 170) rfl rfl) wiX_forgetMornings wsX_forgetMornings inX rfl (by decide) (by decide +kernel) (by decide) (by decide)
  | k + 2, h => simp [csX_hearTexts] at h
theorem okX_hearTexts (l : Launch) : am_Ok l yX_hearTexts prog_1_method_47_code 1 none 2 spX_hearTexts := am_ok_of (by decide +kernel) flX_ok kiX_ok klX_ok ckX_hearTexts (clX_hearTexts l) wpX_hearTexts
