def fnM_reads : Nat → am_Sp := fun a => match a with
  | 0 => spM_faultOf
  | _ => am_no
theorem mfM_reads : ∀ a, am_mono (fnM_reads a) := fun a => match a with
  | 0 => moM_faultOf
  | _ + 1 => am_no_mono
theorem vfl_lt {v : vs_T} {t : Nat} : ∀ (n k j : Nat), vfl v t k n = some j → k ≤ j ∧ j < k + n
  | 0, k, j, h => by cases h
  | n + 1, k, j, h => by
    unfold vfl at h
    split at h
    · cases h; omega
    · have := vfl_lt n (k + 1) j h; omega
theorem nI_m1 : ∀ k, k < 100 → ¬ nI k = -1 := by decide +kernel
theorem vfI_m1 {v : vs_T} (hv : vok v) {t : Nat} (ht : t < 3) : vfI (vflt v t) = -1 ↔ vflt v t = none := by
  cases h : vflt v t with
  | none => simp [vfI]
  | some k =>
    have := vfl_lt _ _ _ h
    have h2 := (vok_len hv ht).2
    have h3 := vcap_le t
    simp [vfI, nI_m1 k (by omega)]
theorem vmean_no {v : vs_T} {t i : Nat} (h : ¬ vflt v t = none) : vmean v t i = 0 := by
  have : vlen v t = 0 := if_neg h
  unfold vmean
  rw [this, if_neg (by omega)]
theorem vmean_out {v : vs_T} {t i : Nat} (h : vn v 0 t ≤ i) : vmean v t i = 0 := by
  have : vlen v t ≤ vn v 0 t := by unfold vlen; split <;> omega
  unfold vmean
  rw [if_neg (by omega)]
theorem vmean_in {v : vs_T} {t i : Nat} (h : vflt v t = none) (hi : i < vn v 0 t) : vmean v t i = vn v 1 (24 * t + i) - vlow t ∧ vlow t ≤ vn v 1 (24 * t + i) := by
  have e : vlen v t = vn v 0 t := if_pos h
  have hi' : i < vlen v t := by omega
  refine ⟨by unfold vmean; rw [if_pos hi'], ?_⟩
  have := vlen_good hi'
  unfold vbad at this
  unfold vlow
  cases q : Nat.blt t 2 <;> rw [q] at this <;> simp only [cond_true, cond_false, Bool.not_eq_false', Bool.and_eq_true] at this ⊢ <;> exact Nat.le_of_ble_eq_true this.1
/-- what reading changes, and what it leaves -/
def fs (D D' : am_D) : Prop := (∀ k, k ≠ 49 → k < 52 ∨ 54 < k → D' k = D k) ∧ ∀ j, j ≠ 4 → D' 49 j = D 49 j
theorem fs_rf {D : am_D} : fs D D := ⟨fun _ _ _ => rfl, fun _ _ => rfl⟩
theorem fs_upA {D D' : am_D} {k j : Nat} {v : Int32} (h1 : 52 ≤ k) (h2 : k ≤ 54) (h : fs D D') : fs D (am_up D' k j v) := ⟨fun q hk hq => by rw [am_up_ne (by omega)]; exact h.1 q hk hq, fun i hi => by rw [am_up_ne (by omega)]; exact h.2 i hi⟩
theorem fs_up {D D' : am_D} {v : Int32} (h : fs D D') : fs D (am_up D' 49 4 v) := ⟨fun k hk hq => by rw [am_up_ne hk]; exact h.1 k hk hq, fun i hi => by
  rw [am_up_eq]
  unfold upd
  rw [if_neg hi]
  exact h.2 i hi⟩
theorem fq_fs {D D' : am_D} (h : fs D D') : fq D D' := ⟨fun k hk => h.1 k (by omega) (by omega), h.2 7 (by omega), h.2 42 (by omega), h.2 51 (by omega)⟩
def rd (D : am_D) (v : vs_T) : Prop := (∀ d, d < 12 → D 52 d = nI (vpl v 1 d) ∧ D 53 d = nI (vpl v 2 d)) ∧ D 49 4 = nI (vpl v 0 0) ∧ ∀ i, i < 24 → D 54 i = if i < vpl v 0 0 then nI (vpl v 3 i) else -1
def spM_reads : am_Sp := fun as D L K => match as with
  | [.ref 49] => ∃ v : vs_T, vok v ∧ im D v ∧ ∀ D', fs D D' → rd D' v → K none D' L
  | _ => False
theorem moM_reads : am_mono spM_reads := by
  intro as D L K K' hK h
  unfold spM_reads at h ⊢
  split at h
  · obtain ⟨v, h1, h2, h3⟩ := h
    exact ⟨v, h1, h2, fun D' q1 q2 => hK _ _ _ (h3 D' q1 q2)⟩
  · exact h
theorem wpM_reads : ∀ (as : List Value) (D : am_D) (L : am_L) (K : am_K), spM_reads as D L K → am_fit 4 as = true ∧ am_Wp false 0 cdM_reads fnM_reads K 0 (am_lo 4 as) [] D L := by
  intro as D L K h
  unfold spM_reads at h
  split at h
  · obtain ⟨v, hv, hi, hK⟩ := h
    have i0 : vp_in (0 : Int32) 3 := by rw [← nI_0]; exact vp_in_nI (by decide) (by decide)
    have i1 : vp_in (1 : Int32) 3 := by rw [← nc1]; exact vp_in_nI (by decide) (by decide)
    have i2 : vp_in (2 : Int32) 3 := by rw [← nc2]; exact vp_in_nI (by decide) (by decide)
    have cl1 : (1 : Int32).toNatClampNeg = 1 := by decide +kernel
    have cl2 : (2 : Int32).toNatClampNeg = 2 := by decide +kernel
    obtain ⟨l0, m0⟩ := vok_len hv (t := 0) (by decide)
    obtain ⟨l1, m1⟩ := vok_len hv (t := 1) (by decide)
    obtain ⟨l2, m2⟩ := vok_len hv (t := 2) (by decide)
    have m0 : vn v 0 0 ≤ 12 := m0
    have m1 : vn v 0 1 ≤ 12 := m1
    have m2 : vn v 0 2 ≤ 24 := m2
    -- the round
    have third : ∀ (k1 k2 : Option Value) (m i : Nat) (D' : am_D), i + m = 24 → fs D D' → (∀ d, d < 12 → D' 52 d = nI (vmean v 0 d) ∧ D' 53 d = nI (vmean v 1 d)) → D' 49 4 = nI (vlen v 2) → (∀ j, j < i → D' 54 j = if j < vlen v 2 then nI (vmean v 2 j) else -1) → (∀ x, k2 ≠ some (.long x)) → (∀ x, k2 ≠ some (.double x)) → am_Wp false 0 cdM_reads fnM_reads K 138 [some (.ref 49), k1, k2, some (.int (nI i))] [] D' L := by
      intro k1 k2 m
      induction m with
      | zero =>
        intro i D' hi' hf hd hr hj n1 n2
        refine am_Wp_bl mfM_reads [138] 20 _ _ _ _ _ ?_
        (repeat ((conv => whnf); (first | refine zo0 ?_ | refine zo1 ?_ | refine br_z ?_ | refine br_o ?_ | refine br_zn ?_ | refine br_on ?_ | refine nz2 ?_ | refine nz6 ?_ | refine nz32 ?_ | refine And.intro (by assumption) ?_))); (conv => whnf)
        refine ⟨fun h1 => ?_, fun h1 => absurd (nI_le (a := 24) (by omega) (by omega)) h1⟩
        (repeat ((conv => whnf); (first | refine zo0 ?_ | refine zo1 ?_ | refine br_z ?_ | refine br_o ?_ | refine br_zn ?_ | refine br_on ?_ | refine nz2 ?_ | refine nz6 ?_ | refine nz32 ?_ | refine And.intro (by assumption) ?_))); (conv => whnf)
        exact hK D' hf ⟨hd, hr, fun j hq => hj j (by omega)⟩
      | succ m ih =>
        intro i D' hi' hf hd hr hj n1 n2
        have ec : (nI i).toNatClampNeg = i := nI_clamp (by omega)
        have hin : vp_in (nI i) 24 := vp_in_nI (by omega) (by decide)
        have e48 : (48 : Int32) + nI i = nI (24 * 2 + i) := by rw [show (48 : Int32) = nI 48 by decide +kernel, nI_add]
        have hin2 : vp_in (nI (24 * 2 + i)) 72 := vp_in_nI (by omega) (by decide)
        have ec2 : (nI (24 * 2 + i)).toNatClampNeg = 24 * 2 + i := nI_clamp (by omega)
        obtain ⟨b1, b2⟩ := vok_byte hv (i := 24 * 2 + i) (by omega)
        have e51 : D' 51 (24 * 2 + i) = nI (vn v 1 (24 * 2 + i)) := by rw [hf.1 51 (by decide) (by omega), hi.2.1 _ (by omega), b1]
        have hlen : vlen v 2 ≤ 24 := vlen_le hv (t := 2) (by decide)
        have fin : ∀ x : Int32, (x = if i < vlen v 2 then nI (vmean v 2 i) else -1) → am_Wp false 0 cdM_reads fnM_reads K 174 [some (.ref 49), k1, k2, some (.int (nI i))] [] (am_up D' 54 i x) L := by
          intro x hx
          refine am_Wp_bl mfM_reads [138] 20 _ _ _ _ _ ?_
          conv => whnf
          have key : am_Wp false 0 cdM_reads fnM_reads K 138 [some (.ref 49), k1, k2, some (.int (nI i + 1))] [] (am_up D' 54 i x) L := by
            rw [nI_1]
            refine ih (i + 1) _ (by omega) (fs_upA (by decide) (by decide) hf) (fun d hq => ?_) ?_ (fun j hq => ?_) n1 n2
            · rw [am_up_ne (by decide), am_up_ne (by decide)]; exact hd d hq
            · rw [am_up_ne (by decide)]; exact hr
            · rw [am_up_eq]
              unfold upd
              by_cases ej : j = i
              · rw [if_pos ej, ej]; exact hx
              · rw [if_neg ej]; exact hj j (by omega)
          split
          · exact absurd rfl (n1 _)
          · exact absurd rfl (n2 _)
          · conv => whnf
            exact key
        refine am_Wp_bl mfM_reads [174] 60 _ _ _ _ _ ?_
        (repeat ((conv => whnf); (first | refine zo0 ?_ | refine zo1 ?_ | refine br_z ?_ | refine br_o ?_ | refine br_zn ?_ | refine br_on ?_ | refine nz2 ?_ | refine nz6 ?_ | refine nz32 ?_ | refine And.intro (by assumption) ?_))); (conv => whnf)
        refine ⟨fun h1 => absurd h1 (nI_ge (b := 24) (by omega) (by omega)), fun h1 => ?_⟩
        (repeat ((conv => whnf); (first | refine zo0 ?_ | refine zo1 ?_ | refine br_z ?_ | refine br_o ?_ | refine br_zn ?_ | refine br_on ?_ | refine nz2 ?_ | refine nz6 ?_ | refine nz32 ?_ | refine And.intro (by assumption) ?_))); (conv => whnf)
        rw [hr]
        refine ⟨fun h2 => ?_, fun h2 => ?_⟩
        · rw [nI_leI (by omega) (by omega)] at h2
          (repeat ((conv => whnf); (first | refine zo0 ?_ | refine zo1 ?_ | refine br_z ?_ | refine br_o ?_ | refine br_zn ?_ | refine br_on ?_ | refine nz2 ?_ | refine nz6 ?_ | refine nz32 ?_ | refine And.intro (by assumption) ?_))); (conv => whnf)
          rw [ec]
          exact fin _ (by rw [if_neg (by omega)])
        · rw [nI_leI (by omega) (by omega)] at h2
          (repeat ((conv => whnf); (first | refine zo0 ?_ | refine zo1 ?_ | refine br_z ?_ | refine br_o ?_ | refine br_zn ?_ | refine br_on ?_ | refine nz2 ?_ | refine nz6 ?_ | refine nz32 ?_ | refine And.intro (by assumption) ?_))); (conv => whnf)
          rw [e48]
          (repeat ((conv => whnf); (first | refine zo0 ?_ | refine zo1 ?_ | refine br_z ?_ | refine br_o ?_ | refine br_zn ?_ | refine br_on ?_ | refine nz2 ?_ | refine nz6 ?_ | refine nz32 ?_ | refine And.intro (by assumption) ?_))); (conv => whnf)
          rw [ec, ec2, e51]
          have hvf : vflt v 2 = none := by
            cases q : vflt v 2 with
            | none => rfl
            | some z =>
              have : vlen v 2 = 0 := if_neg (by rw [q]; intro z; cases z)
              omega
          have hlt : i < vn v 0 2 := by
            have : vlen v 2 = vn v 0 2 := if_pos hvf
            omega
          obtain ⟨c1, c2⟩ := vmean_in hvf hlt
          have c2' : 97 ≤ vn v 1 (24 * 2 + i) := c2
          refine fin _ ?_
          rw [if_pos (by omega), c1, show (97 : Int32) = nI 97 by decide +kernel, pk_sub c2']
          rfl
    -- the doors
    have doors : ∀ (o1 o2 : Int32), ((o1 = 1 ∧ vflt v 0 = none) ∨ (o1 = 0 ∧ ¬ vflt v 0 = none)) → ((o2 = 1 ∧ vflt v 1 = none) ∨ (o2 = 0 ∧ ¬ vflt v 1 = none)) → ∀ (m i : Nat) (D' : am_D), i + m = 12 → fs D D' → (∀ d, d < i → D' 52 d = nI (vmean v 0 d) ∧ D' 53 d = nI (vmean v 1 d)) → am_Wp false 0 cdM_reads fnM_reads K 32 [some (.ref 49), some (.int o1), some (.int o2), some (.int (nI i))] [] D' L := by
      intro o1 o2 h1 h2 m
      induction m with
      | zero =>
        intro i D' hi' hf hd
        have hd' : ∀ d, d < 12 → D' 52 d = nI (vmean v 0 d) ∧ D' 53 d = nI (vmean v 1 d) := fun d hq => hd d (by omega)
        have im' : im D' v := im_fq hi (fq_fs hf)
        have e50 : D' 50 2 = nI (vn v 0 2) := by rw [hf.1 50 (by decide) (by omega), hi.1 2 (by decide), l2]
        refine am_Wp_bl mfM_reads [138] 60 _ _ _ _ _ ?_
        (repeat ((conv => whnf); (first | refine zo0 ?_ | refine zo1 ?_ | refine br_z ?_ | refine br_o ?_ | refine br_zn ?_ | refine br_on ?_ | refine nz2 ?_ | refine nz6 ?_ | refine nz32 ?_ | refine And.intro (by assumption) ?_))); (conv => whnf)
        refine ⟨fun h1 => ?_, fun h1 => absurd (nI_le (a := 12) (by omega) (by omega)) h1⟩
        (repeat ((conv => whnf); (first | refine zo0 ?_ | refine zo1 ?_ | refine br_z ?_ | refine br_o ?_ | refine br_zn ?_ | refine br_on ?_ | refine nz2 ?_ | refine nz6 ?_ | refine nz32 ?_ | refine And.intro (by assumption) ?_))); (conv => whnf)
        refine ⟨v, 2, rfl, by decide, hv, im', ?_⟩
        (repeat ((conv => whnf); (first | refine zo0 ?_ | refine zo1 ?_ | refine br_z ?_ | refine br_o ?_ | refine br_zn ?_ | refine br_on ?_ | refine nz2 ?_ | refine nz6 ?_ | refine nz32 ?_ | refine And.intro (by assumption) ?_))); (conv => whnf)
        rw [vfI_m1 hv (by decide)]
        have go : ∀ x : Int32, x = nI (vlen v 2) → am_Wp false 0 cdM_reads fnM_reads K 138 [some (.ref 49), some (.int o1), some (.int o2), some (.int 0)] [] (am_up D' 49 4 x) L := by
          intro x hx
          refine third _ _ 24 0 _ (by omega) (fs_up hf) (fun d hq => ?_) ?_ (fun j hq => absurd hq (by omega)) (fun x hx => by cases hx) (fun x hx => by cases hx)
          · rw [am_up_ne (by decide), am_up_ne (by decide)]; exact hd' d hq
          · rw [am_up_eq]; simp [upd, hx]
        refine ⟨fun h3 => ?_, fun h3 => ?_⟩
        · (repeat ((conv => whnf); (first | refine zo0 ?_ | refine zo1 ?_ | refine br_z ?_ | refine br_o ?_ | refine br_zn ?_ | refine br_on ?_ | refine nz2 ?_ | refine nz6 ?_ | refine nz32 ?_ | refine And.intro (by assumption) ?_))); (conv => whnf)
          exact go _ (by rw [show vlen v 2 = 0 from if_neg h3, nI_0])
        · (repeat ((conv => whnf); (first | refine zo0 ?_ | refine zo1 ?_ | refine br_z ?_ | refine br_o ?_ | refine br_zn ?_ | refine br_on ?_ | refine nz2 ?_ | refine nz6 ?_ | refine nz32 ?_ | refine And.intro (by assumption) ?_))); (conv => whnf)
          exact go _ (by rw [cl2, e50, show vlen v 2 = vn v 0 2 from if_pos h3])
      | succ m ih =>
        intro i D' hi' hf hd
        have ec : (nI i).toNatClampNeg = i := nI_clamp (by omega)
        have hin : vp_in (nI i) 12 := vp_in_nI (by omega) (by decide)
        have hin72 : vp_in (nI i) 72 := vp_in_nI (by omega) (by decide)
        have e24 : (24 : Int32) + nI i = nI (24 * 1 + i) := by rw [show (24 : Int32) = nI 24 by decide +kernel, nI_add]
        have hin2 : vp_in (nI (24 * 1 + i)) 72 := vp_in_nI (by omega) (by decide)
        have ec2 : (nI (24 * 1 + i)).toNatClampNeg = 24 * 1 + i := nI_clamp (by omega)
        have p71 : ∀ D1 : am_D, fs D D1 → (∀ d, d < i → D1 52 d = nI (vmean v 0 d) ∧ D1 53 d = nI (vmean v 1 d)) → D1 52 i = nI (vmean v 0 i) → am_Wp false 0 cdM_reads fnM_reads K 71 [some (.ref 49), some (.int o1), some (.int o2), some (.int (nI i))] [] D1 L := by
          intro D1 hf1 hd1 h52
          obtain ⟨b1, b2⟩ := vok_byte hv (i := 24 * 1 + i) (by omega)
          have e51 : D1 51 (24 * 1 + i) = nI (vn v 1 (24 * 1 + i)) := by rw [hf1.1 51 (by decide) (by omega), hi.2.1 _ (by omega), b1]
          have e50 : D1 50 1 = nI (vn v 0 1) := by rw [hf1.1 50 (by decide) (by omega), hi.1 1 (by decide), l1]
          have fin : ∀ x : Int32, x = nI (vmean v 1 i) → am_Wp false 0 cdM_reads fnM_reads K 32 [some (.ref 49), some (.int o1), some (.int o2), some (.int (nI i + 1))] [] (am_up D1 53 i x) L := by
            intro x hx
            rw [nI_1]
            refine ih (i + 1) _ (by omega) (fs_upA (by decide) (by decide) hf1) (fun d hq => ?_)
            rw [am_up_ne (by decide), am_up_eq]
            unfold upd
            by_cases ed : d = i
            · rw [if_pos ed, ed]; exact ⟨h52, hx⟩
            · rw [if_neg ed]; exact hd1 d (by omega)
          refine am_Wp_bl mfM_reads [32] 60 _ _ _ _ _ ?_
          (repeat ((conv => whnf); (first | refine zo0 ?_ | refine zo1 ?_ | refine br_z ?_ | refine br_o ?_ | refine br_zn ?_ | refine br_on ?_ | refine nz2 ?_ | refine nz6 ?_ | refine nz32 ?_ | refine And.intro (by assumption) ?_))); (conv => whnf)
          refine ⟨fun h3 => ?_, fun h3 => ?_⟩
          · have hno : ¬ vflt v 1 = none := by
              rcases h2 with ⟨q, _⟩ | ⟨_, q⟩
              · rw [q] at h3; exact absurd h3 (by decide)
              · exact q
            (repeat ((conv => whnf); (first | refine zo0 ?_ | refine zo1 ?_ | refine br_z ?_ | refine br_o ?_ | refine br_zn ?_ | refine br_on ?_ | refine nz2 ?_ | refine nz6 ?_ | refine nz32 ?_ | refine And.intro (by assumption) ?_))); (conv => whnf)
            rw [ec]
            exact fin _ (by rw [vmean_no hno, nI_0])
          · have hyes : vflt v 1 = none := by
              rcases h2 with ⟨_, q⟩ | ⟨q, _⟩
              · exact q
              · exact absurd q h3
            (repeat ((conv => whnf); (first | refine zo0 ?_ | refine zo1 ?_ | refine br_z ?_ | refine br_o ?_ | refine br_zn ?_ | refine br_on ?_ | refine nz2 ?_ | refine nz6 ?_ | refine nz32 ?_ | refine And.intro (by assumption) ?_))); (conv => whnf)
            rw [cl1, e50]
            refine ⟨fun h4 => ?_, fun h4 => ?_⟩
            · rw [nI_leI (by omega) (by omega)] at h4
              (repeat ((conv => whnf); (first | refine zo0 ?_ | refine zo1 ?_ | refine br_z ?_ | refine br_o ?_ | refine br_zn ?_ | refine br_on ?_ | refine nz2 ?_ | refine nz6 ?_ | refine nz32 ?_ | refine And.intro (by assumption) ?_))); (conv => whnf)
              rw [ec]
              exact fin _ (by rw [vmean_out h4, nI_0])
            · rw [nI_leI (by omega) (by omega)] at h4
              (repeat ((conv => whnf); (first | refine zo0 ?_ | refine zo1 ?_ | refine br_z ?_ | refine br_o ?_ | refine br_zn ?_ | refine br_on ?_ | refine nz2 ?_ | refine nz6 ?_ | refine nz32 ?_ | refine And.intro (by assumption) ?_))); (conv => whnf)
              rw [e24]
              (repeat ((conv => whnf); (first | refine zo0 ?_ | refine zo1 ?_ | refine br_z ?_ | refine br_o ?_ | refine br_zn ?_ | refine br_on ?_ | refine nz2 ?_ | refine nz6 ?_ | refine nz32 ?_ | refine And.intro (by assumption) ?_))); (conv => whnf)
              rw [ec, ec2, e51]
              obtain ⟨c1, c2⟩ := vmean_in hyes (show i < vn v 0 1 by omega)
              have c2' : 48 ≤ vn v 1 (24 * 1 + i) := c2
              refine fin _ ?_
              rw [c1, show (48 : Int32) = nI 48 by decide +kernel, pk_sub c2']
              rfl
        obtain ⟨b1, b2⟩ := vok_byte hv (i := 24 * 0 + i) (by omega)
        have e51 : D' 51 i = nI (vn v 1 (24 * 0 + i)) := by
          have e0 : 24 * 0 + i = i := by omega
          have b1' := b1
          rw [e0] at b1'
          rw [e0, hf.1 51 (by decide) (by omega), hi.2.1 i (by omega), b1']
        have e50 : D' 50 0 = nI (vn v 0 0) := by rw [hf.1 50 (by decide) (by omega), hi.1 0 (by decide), l0]
        have fin : ∀ x : Int32, x = nI (vmean v 0 i) → am_Wp false 0 cdM_reads fnM_reads K 71 [some (.ref 49), some (.int o1), some (.int o2), some (.int (nI i))] [] (am_up D' 52 i x) L := by
          intro x hx
          refine p71 _ (fs_upA (by decide) (by decide) hf) (fun d hq => ?_) ?_
          · have ed : ¬ d = i := by omega
            rw [am_up_eq, am_up_ne (show (53 : Nat) ≠ 52 by decide)]
            unfold upd
            rw [if_neg ed]
            exact hd d hq
          · rw [am_up_eq]; simp [upd, hx]
        refine am_Wp_bl mfM_reads [71] 60 _ _ _ _ _ ?_
        (repeat ((conv => whnf); (first | refine zo0 ?_ | refine zo1 ?_ | refine br_z ?_ | refine br_o ?_ | refine br_zn ?_ | refine br_on ?_ | refine nz2 ?_ | refine nz6 ?_ | refine nz32 ?_ | refine And.intro (by assumption) ?_))); (conv => whnf)
        refine ⟨fun h3 => absurd h3 (nI_ge (b := 12) (by omega) (by omega)), fun _ => ?_⟩
        (repeat ((conv => whnf); (first | refine zo0 ?_ | refine zo1 ?_ | refine br_z ?_ | refine br_o ?_ | refine br_zn ?_ | refine br_on ?_ | refine nz2 ?_ | refine nz6 ?_ | refine nz32 ?_ | refine And.intro (by assumption) ?_))); (conv => whnf)
        refine ⟨fun h3 => ?_, fun h3 => ?_⟩
        · have hno : ¬ vflt v 0 = none := by
            rcases h1 with ⟨q, _⟩ | ⟨_, q⟩
            · rw [q] at h3; exact absurd h3 (by decide)
            · exact q
          (repeat ((conv => whnf); (first | refine zo0 ?_ | refine zo1 ?_ | refine br_z ?_ | refine br_o ?_ | refine br_zn ?_ | refine br_on ?_ | refine nz2 ?_ | refine nz6 ?_ | refine nz32 ?_ | refine And.intro (by assumption) ?_))); (conv => whnf)
          rw [ec]
          exact fin _ (by rw [vmean_no hno, nI_0])
        · have hyes : vflt v 0 = none := by
            rcases h1 with ⟨_, q⟩ | ⟨q, _⟩
            · exact q
            · exact absurd q h3
          (repeat ((conv => whnf); (first | refine zo0 ?_ | refine zo1 ?_ | refine br_z ?_ | refine br_o ?_ | refine br_zn ?_ | refine br_on ?_ | refine nz2 ?_ | refine nz6 ?_ | refine nz32 ?_ | refine And.intro (by assumption) ?_))); (conv => whnf)
          rw [cl0, e50]
          refine ⟨fun h4 => ?_, fun h4 => ?_⟩
          · rw [nI_leI (by omega) (by omega)] at h4
            (repeat ((conv => whnf); (first | refine zo0 ?_ | refine zo1 ?_ | refine br_z ?_ | refine br_o ?_ | refine br_zn ?_ | refine br_on ?_ | refine nz2 ?_ | refine nz6 ?_ | refine nz32 ?_ | refine And.intro (by assumption) ?_))); (conv => whnf)
            rw [ec]
            exact fin _ (by rw [vmean_out h4, nI_0])
          · rw [nI_leI (by omega) (by omega)] at h4
            (repeat ((conv => whnf); (first | refine zo0 ?_ | refine zo1 ?_ | refine br_z ?_ | refine br_o ?_ | refine br_zn ?_ | refine br_on ?_ | refine nz2 ?_ | refine nz6 ?_ | refine nz32 ?_ | refine And.intro (by assumption) ?_))); (conv => whnf)
            rw [ec, e51]
            obtain ⟨c1, c2⟩ := vmean_in hyes (show i < vn v 0 0 by omega)
            have c2' : 48 ≤ vn v 1 (24 * 0 + i) := c2
            refine fin _ ?_
            rw [c1, show (48 : Int32) = nI 48 by decide +kernel, pk_sub c2']
            rfl
    have start2 : ∀ (o1 : Int32), ((o1 = 1 ∧ vflt v 0 = none) ∨ (o1 = 0 ∧ ¬ vflt v 0 = none)) → am_Wp false 0 cdM_reads fnM_reads K 15 [some (.ref 49), some (.int o1), none, none] [] D L := by
      intro o1 h1
      refine am_Wp_bl mfM_reads [32] 60 _ _ _ _ _ ?_
      (repeat ((conv => whnf); (first | refine zo0 ?_ | refine zo1 ?_ | refine br_z ?_ | refine br_o ?_ | refine br_zn ?_ | refine br_on ?_ | refine nz2 ?_ | refine nz6 ?_ | refine nz32 ?_ | refine And.intro (by assumption) ?_))); (conv => whnf)
      refine ⟨v, 1, nc1.symm, by decide, hv, hi, ?_⟩
      (repeat ((conv => whnf); (first | refine zo0 ?_ | refine zo1 ?_ | refine br_z ?_ | refine br_o ?_ | refine br_zn ?_ | refine br_on ?_ | refine nz2 ?_ | refine nz6 ?_ | refine nz32 ?_ | refine And.intro (by assumption) ?_))); (conv => whnf)
      rw [vfI_m1 hv (by decide)]
      refine ⟨fun h3 => ?_, fun h3 => ?_⟩
      · (repeat ((conv => whnf); (first | refine zo0 ?_ | refine zo1 ?_ | refine br_z ?_ | refine br_o ?_ | refine br_zn ?_ | refine br_on ?_ | refine nz2 ?_ | refine nz6 ?_ | refine nz32 ?_ | refine And.intro (by assumption) ?_))); (conv => whnf)
        exact doors o1 0 h1 (Or.inr ⟨rfl, h3⟩) 12 0 D (by omega) fs_rf (fun d hq => absurd hq (by omega))
      · (repeat ((conv => whnf); (first | refine zo0 ?_ | refine zo1 ?_ | refine br_z ?_ | refine br_o ?_ | refine br_zn ?_ | refine br_on ?_ | refine nz2 ?_ | refine nz6 ?_ | refine nz32 ?_ | refine And.intro (by assumption) ?_))); (conv => whnf)
        exact doors o1 1 h1 (Or.inl ⟨rfl, h3⟩) 12 0 D (by omega) fs_rf (fun d hq => absurd hq (by omega))
    refine ⟨rfl, am_Wp_bl mfM_reads [15] 60 _ _ _ _ _ ?_⟩
    (repeat ((conv => whnf); (first | refine zo0 ?_ | refine zo1 ?_ | refine br_z ?_ | refine br_o ?_ | refine br_zn ?_ | refine br_on ?_ | refine nz2 ?_ | refine nz6 ?_ | refine nz32 ?_ | refine And.intro (by assumption) ?_))); (conv => whnf)
    refine ⟨v, 0, nI_0.symm, by decide, hv, hi, ?_⟩
    (repeat ((conv => whnf); (first | refine zo0 ?_ | refine zo1 ?_ | refine br_z ?_ | refine br_o ?_ | refine br_zn ?_ | refine br_on ?_ | refine nz2 ?_ | refine nz6 ?_ | refine nz32 ?_ | refine And.intro (by assumption) ?_))); (conv => whnf)
    rw [vfI_m1 hv (by decide)]
    refine ⟨fun h3 => ?_, fun h3 => ?_⟩
    · (repeat ((conv => whnf); (first | refine zo0 ?_ | refine zo1 ?_ | refine br_z ?_ | refine br_o ?_ | refine br_zn ?_ | refine br_on ?_ | refine nz2 ?_ | refine nz6 ?_ | refine nz32 ?_ | refine And.intro (by assumption) ?_))); (conv => whnf)
      exact start2 0 (Or.inr ⟨rfl, h3⟩)
    · (repeat ((conv => whnf); (first | refine zo0 ?_ | refine zo1 ?_ | refine br_z ?_ | refine br_o ?_ | refine br_zn ?_ | refine br_on ?_ | refine nz2 ?_ | refine nz6 ?_ | refine nz32 ?_ | refine And.intro (by assumption) ?_))); (conv => whnf)
      exact start2 1 (Or.inl ⟨rfl, h3⟩)
  · exact absurd h id
theorem clM_reads (l : Launch) : ∀ (a : Nat) (ins : Instr) (b dd : Nat), csM_reads[a]? = some (ins, b, dd) → am_Call l yM_reads.cls 2 ins b dd (fnM_reads a) := by
  intro a ins b dd h
  match a, h with
  | 0, h => cases h; exact am_callV (T := F_11) (N := 52) (okM_faultOf l) wcM_faultOf (am_m5 (i := 44) rfl rfl) wiM_faultOf wsM_faultOf inM rfl (by decide) (by decide +kernel) (by decide) (by decide)
  | k + 1, h => simp [csM_reads] at h
theorem okM_reads (l : Launch) : am_Ok l yM_reads prog_13_method_17_code 4 none 2 spM_reads := am_ok_of (by decide +kernel) flM_ok kiM_ok klM_ok ckM_reads (clM_reads l) wpM_reads
