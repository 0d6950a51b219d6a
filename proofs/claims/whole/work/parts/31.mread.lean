/-! the model holds the state -/
def im (D : am_D) (v : vs_T) : Prop := (∀ t, t < 3 → D 50 t = v 0 t) ∧ (∀ i, i < 72 → D 51 i = v 1 i) ∧ (∀ i, i < 3 → D 55 i = v 0 (i + 3)) ∧ D 49 7 = v 0 6 ∧ (∀ i, i < 8 → D 56 i = v 2 i ∧ D 57 i = v 3 i ∧ D 58 i = v 4 i) ∧ D 49 42 = v 0 7 ∧ (∀ i, i < 8 → D 71 i = v 5 i ∧ D 72 i = v 6 i) ∧ D 49 51 = v 0 8 ∧ (∀ s, s < 4 → D 74 s = v 7 s ∧ D 75 s = v 8 s ∧ D 76 s = v 9 s) ∧ ∀ i, i < 240 → D 77 i = v 10 i
/-- cells that a question to the model leaves alone -/
def fq (D D' : am_D) : Prop := (∀ k, k < 49 ∨ k = 50 ∨ k = 51 ∨ (55 ≤ k ∧ k ≤ 58) ∨ k = 71 ∨ k = 72 ∨ (74 ≤ k ∧ k ≤ 77) ∨ 79 ≤ k → D' k = D k) ∧ D' 49 7 = D 49 7 ∧ D' 49 42 = D 49 42 ∧ D' 49 51 = D 49 51
theorem fq_rf {D : am_D} : fq D D := ⟨fun _ _ => rfl, rfl, rfl, rfl⟩
theorem fq_tr {D D' D'' : am_D} (h1 : fq D D') (h2 : fq D' D'') : fq D D'' := ⟨fun k hk => (h2.1 k hk).trans (h1.1 k hk), h2.2.1.trans h1.2.1, h2.2.2.1.trans h1.2.2.1, h2.2.2.2.trans h1.2.2.2⟩
theorem fq_up {D D' : am_D} {k j : Nat} {v : Int32} (hk : k = 52 ∨ k = 53 ∨ k = 54 ∨ (59 ≤ k ∧ k ≤ 70) ∨ k = 73 ∨ k = 78) (h : fq D D') : fq D (am_up D' k j v) := ⟨fun q hq => by rw [am_up_ne (by omega)]; exact h.1 q hq, by rw [am_up_ne (by omega)]; exact h.2.1, by rw [am_up_ne (by omega)]; exact h.2.2.1, by rw [am_up_ne (by omega)]; exact h.2.2.2⟩
theorem fq_up49 {D D' : am_D} {j : Nat} {v : Int32} (hj : j ≠ 7 ∧ j ≠ 42 ∧ j ≠ 51) (h : fq D D') : fq D (am_up D' 49 j v) := by
  refine ⟨fun q hq => by rw [am_up_ne (by omega)]; exact h.1 q hq, ?_, ?_, ?_⟩
  · rw [am_up_eq]; unfold upd; rw [if_neg (Ne.symm hj.1)]; exact h.2.1
  · rw [am_up_eq]; unfold upd; rw [if_neg (Ne.symm hj.2.1)]; exact h.2.2.1
  · rw [am_up_eq]; unfold upd; rw [if_neg (Ne.symm hj.2.2)]; exact h.2.2.2
theorem fq_fg {D D' : am_D} (h : fg D D') : fq D D' := ⟨fun k hk => h.1 k (by omega) (by omega), h.2 7 (by omega), h.2 42 (by omega), h.2 51 (by omega)⟩
theorem im_fq {D D' : am_D} {v : vs_T} (h : im D v) (f : fq D D') : im D' v := by
  unfold im at h ⊢
  rw [f.1 50 (by omega), f.1 51 (by omega), f.1 55 (by omega), f.2.1, f.1 56 (by omega), f.1 57 (by omega), f.1 58 (by omega), f.2.2.1, f.1 71 (by omega), f.1 72 (by omega), f.2.2.2, f.1 74 (by omega), f.1 75 (by omega), f.1 76 (by omega), f.1 77 (by omega)]
  exact h
theorem em_im {D : am_D} {v : vs_T} (h : im D v) (hv : vok v) : em D (vev v) := by
  obtain ⟨n, h1, h2, h3⟩ := hv.2.2.2.2.2.1
  have e : vev v 0 0 = n := vn_nI h2 (by omega)
  refine ⟨by rw [e, h.2.2.2.1, h2], fun i hi => ?_⟩
  rw [e] at hi
  obtain ⟨⟨a, a1, a2⟩, ⟨b, b1, b2⟩, ⟨c, c1, c2⟩⟩ := h3 i hi
  have q := h.2.2.2.2.1 i (by omega)
  refine ⟨?_, ?_, ?_⟩
  · rw [q.1, a2]; show nI a = nI (vn v 2 i); rw [vn_nI a2 (by omega)]
  · rw [q.2.1, b2]; show nI b = nI (vn v 3 i); rw [vn_nI b2 (by omega)]
  · rw [q.2.2, c2]; show nI c = nI (vn v 4 i); rw [vn_nI c2 (by omega)]
def fnM_in : Nat → am_Sp := fun _ => am_no
theorem mfM_in : ∀ a, am_mono (fnM_in a) := fun _ => am_no_mono
def spM_in : am_Sp := fun as D L K => match as with
  | [.int x, .int lo, .int hi] => ((lo ≤ x ∧ x ≤ hi) → K (some (.int 1)) D L) ∧ (¬ (lo ≤ x ∧ x ≤ hi) → K (some (.int 0)) D L)
  | _ => False
theorem moM_in : am_mono spM_in := by
  intro as D L K K' hK h
  unfold spM_in at h ⊢
  split at h
  · exact ⟨fun q => hK _ _ _ (h.1 q), fun q => hK _ _ _ (h.2 q)⟩
  · exact h
theorem wpM_in : ∀ (as : List Value) (D : am_D) (L : am_L) (K : am_K), spM_in as D L K → am_fit 3 as = true ∧ am_Wp false 0 cdM_in fnM_in K 0 (am_lo 3 as) [] D L := by
  intro as D L K h
  unfold spM_in at h
  split at h
  · refine ⟨rfl, am_Wp_bl mfM_in [] 20 _ _ _ _ _ ?_⟩
    (repeat ((conv => whnf); (first | refine zo0 ?_ | refine zo1 ?_ | refine br_z ?_ | refine br_o ?_ | refine br_zn ?_ | refine br_on ?_ | refine nz2 ?_ | refine nz6 ?_ | refine nz32 ?_ | refine And.intro (by assumption) ?_))); (conv => whnf)
    refine ⟨fun h1 => ?_, fun h1 => ?_⟩
    · (repeat ((conv => whnf); (first | refine zo0 ?_ | refine zo1 ?_ | refine br_z ?_ | refine br_o ?_ | refine br_zn ?_ | refine br_on ?_ | refine nz2 ?_ | refine nz6 ?_ | refine nz32 ?_ | refine And.intro (by assumption) ?_))); (conv => whnf)
      exact h.2 (fun q => absurd q.1 (Int32.not_le.mpr h1))
    · (repeat ((conv => whnf); (first | refine zo0 ?_ | refine zo1 ?_ | refine br_z ?_ | refine br_o ?_ | refine br_zn ?_ | refine br_on ?_ | refine nz2 ?_ | refine nz6 ?_ | refine nz32 ?_ | refine And.intro (by assumption) ?_))); (conv => whnf)
      refine ⟨fun h2 => ?_, fun h2 => ?_⟩
      · (repeat ((conv => whnf); (first | refine zo0 ?_ | refine zo1 ?_ | refine br_z ?_ | refine br_o ?_ | refine br_zn ?_ | refine br_on ?_ | refine nz2 ?_ | refine nz6 ?_ | refine nz32 ?_ | refine And.intro (by assumption) ?_))); (conv => whnf)
        exact h.2 (fun q => absurd q.2 (Int32.not_le.mpr h2))
      · (repeat ((conv => whnf); (first | refine zo0 ?_ | refine zo1 ?_ | refine br_z ?_ | refine br_o ?_ | refine br_zn ?_ | refine br_on ?_ | refine nz2 ?_ | refine nz6 ?_ | refine nz32 ?_ | refine And.intro (by assumption) ?_))); (conv => whnf)
        exact h.1 ⟨Int32.not_lt.mp h1, Int32.not_lt.mp h2⟩
  · exact absurd h id
theorem clM_in (l : Launch) : ∀ (a : Nat) (ins : Instr) (b dd : Nat), csM_in[a]? = some (ins, b, dd) → am_Call l yM_in.cls 0 ins b dd (fnM_in a) := by
  intro a ins b dd h
  match a, h with
  | k + 0, h => simp [csM_in] at h
theorem okM_in (l : Launch) : am_Ok l yM_in prog_13_method_3_code 3 (some .boolean) 0 spM_in := am_ok_of (by decide +kernel) flM_ok kiM_ok klM_ok ckM_in (clM_in l) wpM_in
def fnM_faultOf : Nat → am_Sp := fun a => match a with
  | 0 => spM_in
  | _ => am_no
theorem mfM_faultOf : ∀ a, am_mono (fnM_faultOf a) := fun a => match a with
  | 0 => moM_in
  | _ + 1 => am_no_mono
theorem vb0 : ∀ b, b < 256 → ∀ t, t < 2 → (((48 : Int32) ≤ nI b ∧ nI b ≤ 53) ↔ vbad t b = false) := by decide +kernel
theorem vb2 : ∀ b, b < 256 → (((97 : Int32) ≤ nI b ∧ nI b ≤ 108) ↔ vbad 2 b = false) := by decide +kernel
def spM_faultOf : am_Sp := fun as D L K => match as with
  | [.ref 49, .int x] => ∃ (v : vs_T) (t : Nat), x = nI t ∧ t < 3 ∧ vok v ∧ im D v ∧ K (some (.int (vfI (vflt v t)))) D L
  | _ => False
theorem moM_faultOf : am_mono spM_faultOf := by
  intro as D L K K' hK h
  unfold spM_faultOf at h ⊢
  split at h
  · obtain ⟨v, t, h1, h2, h3, h4, h5⟩ := h
    exact ⟨v, t, h1, h2, h3, h4, hK _ _ _ h5⟩
  · exact h
theorem wpM_faultOf : ∀ (as : List Value) (D : am_D) (L : am_L) (K : am_K), spM_faultOf as D L K → am_fit 4 as = true ∧ am_Wp false 0 cdM_faultOf fnM_faultOf K 0 (am_lo 4 as) [] D L := by
  intro as D L K h
  unfold spM_faultOf at h
  split at h
  · obtain ⟨v, t, rfl, ht, hv, hi, hK⟩ := h
    have ect : (nI t).toNatClampNeg = t := nI_clamp (by omega)
    have hint : vp_in (nI t) 3 := vp_in_nI (by omega) (by decide)
    obtain ⟨l1, l2⟩ := vok_len hv ht
    have l3 := vcap_le t
    have e50 : D 50 t = nI (vn v 0 t) := by rw [hi.1 t ht, l1]
    have loop : ∀ (m i : Nat) (k3 : Option Value), i + m = vn v 0 t → vfl v t i m = vflt v t → am_Wp false 0 cdM_faultOf fnM_faultOf K 2 [some (.ref 49), some (.int (nI t)), some (.int (nI i)), k3] [] D L := by
      intro m
      induction m with
      | zero =>
        intro i k3 hi' hf
        refine am_Wp_bl mfM_faultOf [2] 20 _ _ _ _ _ ?_
        (repeat ((conv => whnf); (first | refine zo0 ?_ | refine zo1 ?_ | refine br_z ?_ | refine br_o ?_ | refine br_zn ?_ | refine br_on ?_ | refine nz2 ?_ | refine nz6 ?_ | refine nz32 ?_ | refine And.intro (by assumption) ?_))); (conv => whnf)
        rw [ect, e50]
        refine ⟨fun h1 => ?_, fun h1 => absurd (nI_le (by omega) (by omega)) h1⟩
        (repeat ((conv => whnf); (first | refine zo0 ?_ | refine zo1 ?_ | refine br_z ?_ | refine br_o ?_ | refine br_zn ?_ | refine br_on ?_ | refine nz2 ?_ | refine nz6 ?_ | refine nz32 ?_ | refine And.intro (by assumption) ?_))); (conv => whnf)
        rw [← hf] at hK
        exact hK
      | succ m ih =>
        intro i k3 hi' hf
        have e24 : (24 : Int32) * nI t + nI i = nI (24 * t + i) := by rw [show (24 : Int32) = nI 24 by decide +kernel, pk_mul, nI_add]
        have hlt : 24 * t + i < 72 := by omega
        have hin : vp_in (nI (24 * t + i)) 72 := vp_in_nI hlt (by decide)
        have ec : (nI (24 * t + i)).toNatClampNeg = 24 * t + i := nI_clamp (by omega)
        obtain ⟨b1, b2⟩ := vok_byte hv hlt
        have e51 : D 51 (24 * t + i) = nI (vn v 1 (24 * t + i)) := by rw [hi.2.1 _ hlt, b1]
        have bad : vbad t (vn v 1 (24 * t + i)) = true → K (some (.int (nI i))) D L := by
          intro q
          rw [← hf, vfl, if_pos q] at hK
          exact hK
        have good : vbad t (vn v 1 (24 * t + i)) = false → ∀ k3, am_Wp false 0 cdM_faultOf fnM_faultOf K 2 [some (.ref 49), some (.int (nI t)), some (.int (nI i + 1)), k3] [] D L := by
          intro q k3
          rw [nI_1]
          refine ih (i + 1) k3 (by omega) ?_
          rw [← hf, vfl, if_neg (by rw [q]; decide)]
        refine am_Wp_bl mfM_faultOf [2] 60 _ _ _ _ _ ?_
        (repeat ((conv => whnf); (first | refine zo0 ?_ | refine zo1 ?_ | refine br_z ?_ | refine br_o ?_ | refine br_zn ?_ | refine br_on ?_ | refine nz2 ?_ | refine nz6 ?_ | refine nz32 ?_ | refine And.intro (by assumption) ?_))); (conv => whnf)
        rw [ect, e50]
        refine ⟨fun h1 => absurd h1 (nI_ge (by omega) (by omega)), fun h1 => ?_⟩
        (repeat ((conv => whnf); (first | refine zo0 ?_ | refine zo1 ?_ | refine br_z ?_ | refine br_o ?_ | refine br_zn ?_ | refine br_on ?_ | refine nz2 ?_ | refine nz6 ?_ | refine nz32 ?_ | refine And.intro (by assumption) ?_))); (conv => whnf)
        rw [e24]
        (repeat ((conv => whnf); (first | refine zo0 ?_ | refine zo1 ?_ | refine br_z ?_ | refine br_o ?_ | refine br_zn ?_ | refine br_on ?_ | refine nz2 ?_ | refine nz6 ?_ | refine nz32 ?_ | refine And.intro (by assumption) ?_))); (conv => whnf)
        rw [ec, e51]
        have h2i : (2 : Int32) ≤ nI t ↔ 2 ≤ t := by rw [← nc2, nI_leI (by omega) (by omega)]
        rw [h2i]
        refine ⟨fun h2 => ?_, fun h2 => ?_⟩
        · have et : t = 2 := by omega
          subst et
          have key := vb2 (vn v 1 (24 * 2 + i)) (by omega)
          (repeat ((conv => whnf); (first | refine zo0 ?_ | refine zo1 ?_ | refine br_z ?_ | refine br_o ?_ | refine br_zn ?_ | refine br_on ?_ | refine nz2 ?_ | refine nz6 ?_ | refine nz32 ?_ | refine And.intro (by assumption) ?_))); (conv => whnf)
          refine ⟨fun h3 => ?_, fun h3 => ?_⟩
          · (repeat ((conv => whnf); (first | refine zo0 ?_ | refine zo1 ?_ | refine br_z ?_ | refine br_o ?_ | refine br_zn ?_ | refine br_on ?_ | refine nz2 ?_ | refine nz6 ?_ | refine nz32 ?_ | refine And.intro (by assumption) ?_))); (conv => whnf)
            exact good (key.mp h3) _
          · (repeat ((conv => whnf); (first | refine zo0 ?_ | refine zo1 ?_ | refine br_z ?_ | refine br_o ?_ | refine br_zn ?_ | refine br_on ?_ | refine nz2 ?_ | refine nz6 ?_ | refine nz32 ?_ | refine And.intro (by assumption) ?_))); (conv => whnf)
            exact bad (by
              cases q : vbad 2 (vn v 1 (24 * 2 + i)) with
              | true => rfl
              | false => exact absurd (key.mpr q) h3)
        · have key := vb0 (vn v 1 (24 * t + i)) (by omega) t (by omega)
          (repeat ((conv => whnf); (first | refine zo0 ?_ | refine zo1 ?_ | refine br_z ?_ | refine br_o ?_ | refine br_zn ?_ | refine br_on ?_ | refine nz2 ?_ | refine nz6 ?_ | refine nz32 ?_ | refine And.intro (by assumption) ?_))); (conv => whnf)
          refine ⟨fun h3 => ?_, fun h3 => ?_⟩
          · (repeat ((conv => whnf); (first | refine zo0 ?_ | refine zo1 ?_ | refine br_z ?_ | refine br_o ?_ | refine br_zn ?_ | refine br_on ?_ | refine nz2 ?_ | refine nz6 ?_ | refine nz32 ?_ | refine And.intro (by assumption) ?_))); (conv => whnf)
            exact good (key.mp h3) _
          · (repeat ((conv => whnf); (first | refine zo0 ?_ | refine zo1 ?_ | refine br_z ?_ | refine br_o ?_ | refine br_zn ?_ | refine br_on ?_ | refine nz2 ?_ | refine nz6 ?_ | refine nz32 ?_ | refine And.intro (by assumption) ?_))); (conv => whnf)
            exact bad (by
              cases q : vbad t (vn v 1 (24 * t + i)) with
              | true => rfl
              | false => exact absurd (key.mpr q) h3)
    refine ⟨rfl, am_Wp_bl mfM_faultOf [2] 20 _ _ _ _ _ ?_⟩
    (repeat ((conv => whnf); (first | refine zo0 ?_ | refine zo1 ?_ | refine br_z ?_ | refine br_o ?_ | refine br_zn ?_ | refine br_on ?_ | refine nz2 ?_ | refine nz6 ?_ | refine nz32 ?_ | refine And.intro (by assumption) ?_))); (conv => whnf)
    exact loop (vn v 0 t) 0 none (by omega) rfl
  · exact absurd h id
theorem clM_faultOf (l : Launch) : ∀ (a : Nat) (ins : Instr) (b dd : Nat), csM_faultOf[a]? = some (ins, b, dd) → am_Call l yM_faultOf.cls 1 ins b dd (fnM_faultOf a) := by
  intro a ins b dd h
  match a, h with
  | 0, h => cases h; exact am_callS (okM_in l) wcM_in (am_m5 (i := 29) rfl rfl) wtM_in inM (by decide +kernel) (by decide) (by decide)
  | k + 1, h => simp [csM_faultOf] at h
theorem okM_faultOf (l : Launch) : am_Ok l yM_faultOf prog_13_method_16_code 4 (some .int) 1 spM_faultOf := am_ok_of (by decide +kernel) flM_ok kiM_ok klM_ok ckM_faultOf (clM_faultOf l) wpM_faultOf
def fnM_shortNow : Nat → am_Sp := fun a => match a with
  | 0 => spM_wanting
  | _ => am_no
theorem mfM_shortNow : ∀ a, am_mono (fnM_shortNow a) := fun a => match a with
  | 0 => moM_wanting
  | _ + 1 => am_no_mono
def spM_shortNow : am_Sp := fun as D L K => match as with
  | [.ref 49] => ∃ (P w : mw_T), (∀ d, d < 12 → D 59 d = nI (P 1 d) ∧ D 61 d = nI (w 1 d) ∧ w 1 d ≤ P 1 d ∧ P 1 d ≤ 5) ∧ K (some (.int (mw_lk P w 12))) D L
  | _ => False
theorem moM_shortNow : am_mono spM_shortNow := by
  intro as D L K K' hK h
  unfold spM_shortNow at h ⊢
  split at h
  · obtain ⟨P, w, h1, h2⟩ := h
    exact ⟨P, w, h1, hK _ _ _ h2⟩
  · exact h
theorem wpM_shortNow : ∀ (as : List Value) (D : am_D) (L : am_L) (K : am_K), spM_shortNow as D L K → am_fit 3 as = true ∧ am_Wp false 0 cdM_shortNow fnM_shortNow K 0 (am_lo 3 as) [] D L := by
  intro as D L K h
  unfold spM_shortNow at h
  split at h
  · obtain ⟨P, w, hd, hK⟩ := h
    have loop : ∀ (m i : Nat), i + m = 12 → am_Wp false 0 cdM_shortNow fnM_shortNow K 4 [some (.ref 49), some (.int (mw_lk P w i)), some (.int (nI i))] [] D L := by
      intro m
      induction m with
      | zero =>
        intro i hi
        refine am_Wp_bl mfM_shortNow [4] 30 _ _ _ _ _ ?_
        (repeat ((conv => whnf); (first | refine zo0 ?_ | refine zo1 ?_ | refine br_z ?_ | refine br_o ?_ | refine br_zn ?_ | refine br_on ?_ | refine nz2 ?_ | refine nz6 ?_ | refine nz32 ?_ | refine And.intro (by assumption) ?_))); (conv => whnf)
        refine ⟨fun h1 => ?_, fun h1 => absurd (nI_le (a := 12) (by omega) (by omega)) h1⟩
        (repeat ((conv => whnf); (first | refine zo0 ?_ | refine zo1 ?_ | refine br_z ?_ | refine br_o ?_ | refine br_zn ?_ | refine br_on ?_ | refine nz2 ?_ | refine nz6 ?_ | refine nz32 ?_ | refine And.intro (by assumption) ?_))); (conv => whnf)
        rw [show i = 12 by omega]
        exact hK
      | succ m ih =>
        intro i hi
        obtain ⟨x4, x1, b1, b2⟩ := hd i (by omega)
        have e := ih (i + 1) (by omega)
        rw [← nI_1] at e
        refine am_Wp_bl mfM_shortNow [4] 40 _ _ _ _ _ ?_
        (repeat ((conv => whnf); (first | refine zo0 ?_ | refine zo1 ?_ | refine br_z ?_ | refine br_o ?_ | refine br_zn ?_ | refine br_on ?_ | refine nz2 ?_ | refine nz6 ?_ | refine nz32 ?_ | refine And.intro (by assumption) ?_))); (conv => whnf)
        refine ⟨fun h1 => absurd h1 (nI_ge (b := 12) (by omega) (by omega)), fun h1 => ?_⟩
        (repeat ((conv => whnf); (first | refine zo0 ?_ | refine zo1 ?_ | refine br_z ?_ | refine br_o ?_ | refine br_zn ?_ | refine br_on ?_ | refine nz2 ?_ | refine nz6 ?_ | refine nz32 ?_ | refine And.intro (by assumption) ?_))); (conv => whnf)
        refine ⟨i, rfl, by omega, ?_⟩
        rw [x4, x1, pk_sub b1]
        (repeat ((conv => whnf); (first | refine zo0 ?_ | refine zo1 ?_ | refine br_z ?_ | refine br_o ?_ | refine br_zn ?_ | refine br_on ?_ | refine nz2 ?_ | refine nz6 ?_ | refine nz32 ?_ | refine And.intro (by assumption) ?_))); (conv => whnf)
        refine ⟨fun h2 => ?_, fun h2 => ?_⟩
        · rw [← nI_0, nI_leI (by omega) (by omega)] at h2
          (repeat ((conv => whnf); (first | refine zo0 ?_ | refine zo1 ?_ | refine br_z ?_ | refine br_o ?_ | refine br_zn ?_ | refine br_on ?_ | refine nz2 ?_ | refine nz6 ?_ | refine nz32 ?_ | refine And.intro (by assumption) ?_))); (conv => whnf)
          rw [or0]
          rw [mw_lk, if_neg (by omega)] at e
          exact e
        · rw [← nI_0, nI_leI (by omega) (by omega)] at h2
          (repeat ((conv => whnf); (first | refine zo0 ?_ | refine zo1 ?_ | refine br_z ?_ | refine br_o ?_ | refine br_zn ?_ | refine br_on ?_ | refine nz2 ?_ | refine nz6 ?_ | refine nz32 ?_ | refine And.intro (by assumption) ?_))); (conv => whnf)
          rw [mw_lk, if_pos (by omega)] at e
          exact e
    refine ⟨rfl, am_Wp_bl mfM_shortNow [4] 20 _ _ _ _ _ ?_⟩
    (repeat ((conv => whnf); (first | refine zo0 ?_ | refine zo1 ?_ | refine br_z ?_ | refine br_o ?_ | refine br_zn ?_ | refine br_on ?_ | refine nz2 ?_ | refine nz6 ?_ | refine nz32 ?_ | refine And.intro (by assumption) ?_))); (conv => whnf)
    exact loop 12 0 (by omega)
  · exact absurd h id
theorem clM_shortNow (l : Launch) : ∀ (a : Nat) (ins : Instr) (b dd : Nat), csM_shortNow[a]? = some (ins, b, dd) → am_Call l yM_shortNow.cls 1 ins b dd (fnM_shortNow a) := by
  intro a ins b dd h
  match a, h with
  | 0, h => cases h; exact am_callV (T := F_11) (N := 52) (okM_wanting l) wcM_wanting (am_m5 (i := 146) rfl rfl) wiM_wanting wsM_wanting inM rfl (by decide) (by decide +kernel) (by decide) (by decide)
  | k + 1, h => simp [csM_shortNow] at h
theorem okM_shortNow (l : Launch) : am_Ok l yM_shortNow prog_13_method_50_code 3 (some .int) 1 spM_shortNow := am_ok_of (by decide +kernel) flM_ok kiM_ok klM_ok ckM_shortNow (clM_shortNow l) wpM_shortNow
def fnM_manyShort : Nat → am_Sp := fun a => match a with
  | 0 => spM_wanting
  | _ => am_no
theorem mfM_manyShort : ∀ a, am_mono (fnM_manyShort a) := fun a => match a with
  | 0 => moM_wanting
  | _ + 1 => am_no_mono
def spM_manyShort : am_Sp := fun as D L K => match as with
  | [.ref 49] => ∃ (P w : mw_T), (∀ d, d < 12 → D 59 d = nI (P 1 d) ∧ D 61 d = nI (w 1 d) ∧ w 1 d ≤ P 1 d ∧ P 1 d ≤ 5) ∧ K (some (.int (nI (mw_ns P w 12)))) D L
  | _ => False
theorem moM_manyShort : am_mono spM_manyShort := by
  intro as D L K K' hK h
  unfold spM_manyShort at h ⊢
  split at h
  · obtain ⟨P, w, h1, h2⟩ := h
    exact ⟨P, w, h1, hK _ _ _ h2⟩
  · exact h
theorem wpM_manyShort : ∀ (as : List Value) (D : am_D) (L : am_L) (K : am_K), spM_manyShort as D L K → am_fit 3 as = true ∧ am_Wp false 0 cdM_manyShort fnM_manyShort K 0 (am_lo 3 as) [] D L := by
  intro as D L K h
  unfold spM_manyShort at h
  split at h
  · obtain ⟨P, w, hd, hK⟩ := h
    have loop : ∀ (m i : Nat), i + m = 12 → am_Wp false 0 cdM_manyShort fnM_manyShort K 4 [some (.ref 49), some (.int (nI (mw_ns P w i))), some (.int (nI i))] [] D L := by
      intro m
      induction m with
      | zero =>
        intro i hi
        refine am_Wp_bl mfM_manyShort [4] 30 _ _ _ _ _ ?_
        (repeat ((conv => whnf); (first | refine zo0 ?_ | refine zo1 ?_ | refine br_z ?_ | refine br_o ?_ | refine br_zn ?_ | refine br_on ?_ | refine nz2 ?_ | refine nz6 ?_ | refine nz32 ?_ | refine And.intro (by assumption) ?_))); (conv => whnf)
        refine ⟨fun h1 => ?_, fun h1 => absurd (nI_le (a := 12) (by omega) (by omega)) h1⟩
        (repeat ((conv => whnf); (first | refine zo0 ?_ | refine zo1 ?_ | refine br_z ?_ | refine br_o ?_ | refine br_zn ?_ | refine br_on ?_ | refine nz2 ?_ | refine nz6 ?_ | refine nz32 ?_ | refine And.intro (by assumption) ?_))); (conv => whnf)
        rw [show i = 12 by omega]
        exact hK
      | succ m ih =>
        intro i hi
        obtain ⟨x4, x1, b1, b2⟩ := hd i (by omega)
        have e := ih (i + 1) (by omega)
        rw [← nI_1] at e
        refine am_Wp_bl mfM_manyShort [4] 40 _ _ _ _ _ ?_
        (repeat ((conv => whnf); (first | refine zo0 ?_ | refine zo1 ?_ | refine br_z ?_ | refine br_o ?_ | refine br_zn ?_ | refine br_on ?_ | refine nz2 ?_ | refine nz6 ?_ | refine nz32 ?_ | refine And.intro (by assumption) ?_))); (conv => whnf)
        refine ⟨fun h1 => absurd h1 (nI_ge (b := 12) (by omega) (by omega)), fun h1 => ?_⟩
        (repeat ((conv => whnf); (first | refine zo0 ?_ | refine zo1 ?_ | refine br_z ?_ | refine br_o ?_ | refine br_zn ?_ | refine br_on ?_ | refine nz2 ?_ | refine nz6 ?_ | refine nz32 ?_ | refine And.intro (by assumption) ?_))); (conv => whnf)
        refine ⟨i, rfl, by omega, ?_⟩
        rw [x4, x1, pk_sub b1]
        (repeat ((conv => whnf); (first | refine zo0 ?_ | refine zo1 ?_ | refine br_z ?_ | refine br_o ?_ | refine br_zn ?_ | refine br_on ?_ | refine nz2 ?_ | refine nz6 ?_ | refine nz32 ?_ | refine And.intro (by assumption) ?_))); (conv => whnf)
        refine ⟨fun h2 => ?_, fun h2 => ?_⟩
        · rw [← nI_0, nI_leI (by omega) (by omega)] at h2
          (repeat ((conv => whnf); (first | refine zo0 ?_ | refine zo1 ?_ | refine br_z ?_ | refine br_o ?_ | refine br_zn ?_ | refine br_on ?_ | refine nz2 ?_ | refine nz6 ?_ | refine nz32 ?_ | refine And.intro (by assumption) ?_))); (conv => whnf)
          rw [show nI (mw_ns P w i) + 0 = nI (mw_ns P w i) by rw [← nI_0, nI_add, Nat.add_zero]]
          rw [mw_ns, if_neg (by omega)] at e
          exact e
        · rw [← nI_0, nI_leI (by omega) (by omega)] at h2
          (repeat ((conv => whnf); (first | refine zo0 ?_ | refine zo1 ?_ | refine br_z ?_ | refine br_o ?_ | refine br_zn ?_ | refine br_on ?_ | refine nz2 ?_ | refine nz6 ?_ | refine nz32 ?_ | refine And.intro (by assumption) ?_))); (conv => whnf)
          rw [mw_ns, if_pos (by omega), ← nI_1] at e
          exact e
    refine ⟨rfl, am_Wp_bl mfM_manyShort [4] 20 _ _ _ _ _ ?_⟩
    (repeat ((conv => whnf); (first | refine zo0 ?_ | refine zo1 ?_ | refine br_z ?_ | refine br_o ?_ | refine br_zn ?_ | refine br_on ?_ | refine nz2 ?_ | refine nz6 ?_ | refine nz32 ?_ | refine And.intro (by assumption) ?_))); (conv => whnf)
    exact loop 12 0 (by omega)
  · exact absurd h id
theorem clM_manyShort (l : Launch) : ∀ (a : Nat) (ins : Instr) (b dd : Nat), csM_manyShort[a]? = some (ins, b, dd) → am_Call l yM_manyShort.cls 1 ins b dd (fnM_manyShort a) := by
  intro a ins b dd h
  match a, h with
  | 0, h => cases h; exact am_callV (T := F_11) (N := 52) (okM_wanting l) wcM_wanting (am_m5 (i := 146) rfl rfl) wiM_wanting wsM_wanting inM rfl (by decide) (by decide +kernel) (by decide) (by decide)
  | k + 1, h => simp [csM_manyShort] at h
theorem okM_manyShort (l : Launch) : am_Ok l yM_manyShort prog_13_method_51_code 3 (some .int) 1 spM_manyShort := am_ok_of (by decide +kernel) flM_ok kiM_ok klM_ok ckM_manyShort (clM_manyShort l) wpM_manyShort
