/-! the best of what was offered -/
def mpick (o : Option (Nat × Nat × Nat)) (j n w : Nat) : Option (Nat × Nat × Nat) := match o with
  | none => some (j, n, w)
  | some (b, n0, w0) => if n < n0 ∨ (n = n0 ∧ w < w0) then some (j, n, w) else some (b, n0, w0)
def bok (o : Option (Nat × Nat × Nat)) : Prop := match o with
  | none => True
  | some (b, n, w) => b < 1000 ∧ n ≤ 12 ∧ w ≤ 48
/-- how many are short, how far he walked, by a plan -/
def mN (P E : mw_T) (pr : Nat → Bool) : Nat := mw_ns P (mw_run P E pr 48) 12
def mW (P E : mw_T) (pr : Nat → Bool) : Nat := mw_run P E pr 48 0 8
def mpicks (P : Nat → mw_T) (E : mw_T) (pr : Nat → Bool) (lo : Nat) : Nat → Option (Nat × Nat × Nat)
  | 0 => none
  | k + 1 => mpick (mpicks P E pr lo k) (lo + k) (mN (P (lo + k)) E pr) (mW (P (lo + k)) E pr)
theorem mpick_ok {o : Option (Nat × Nat × Nat)} {j n w : Nat} (h : bok o) (hj : j < 1000) (hn : n ≤ 12) (hw : w ≤ 48) : bok (mpick o j n w) := by
  unfold mpick
  split
  · exact ⟨hj, hn, hw⟩
  · split
    · exact ⟨hj, hn, hw⟩
    · exact h
theorem mN_le (P E : mw_T) (pr : Nat → Bool) : mN P E pr ≤ 12 := mw_ns_le P _ 12
theorem mW_le {P E : mw_T} {pr : Nat → Bool} (hP : mw_pok P) (hE : mw_eok E) : mW P E pr ≤ 48 := (mw_run_ok hP hE 48).2.2.2.2.2.2.2.1
theorem mpicks_ok {P : Nat → mw_T} {E : mw_T} {pr : Nat → Bool} {lo : Nat} : ∀ k, (∀ i, i < k → mw_pok (P (lo + i))) → mw_eok E → lo + k < 1000 → bok (mpicks P E pr lo k)
  | 0, _, _, _ => trivial
  | k + 1, hP, hE, hk => mpick_ok (mpicks_ok k (fun i hi => hP i (by omega)) hE (by omega)) (by omega) (mN_le _ _ _) (mW_le (hP k (by omega)) hE)
def pI (o : Option (Nat × Nat × Nat)) (c : Nat) : Int32 := match o with
  | none => -1
  | some (b, n, w) => if c = 0 then nI b else if c = 1 then nI n else nI w
/-- the model's three -/
def bm (D : am_D) (o : Option (Nat × Nat × Nat)) : Prop := D 49 38 = pI o 0 ∧ D 49 39 = pI o 1 ∧ D 49 40 = pI o 2
def ft (D D' : am_D) : Prop := (∀ k, k ≠ 49 → k < 61 ∨ 69 < k → D' k = D k) ∧ ∀ j, j < 16 ∨ 28 < j → j ≠ 38 → j ≠ 39 → j ≠ 40 → D' 49 j = D 49 j
theorem ft_fg {D D' : am_D} (h : fg D D') : ft D D' := ⟨h.1, fun j hj _ _ _ => h.2 j hj⟩
theorem ft_tr {D D' D'' : am_D} (h1 : ft D D') (h2 : ft D' D'') : ft D D'' := ⟨fun k a b => (h2.1 k a b).trans (h1.1 k a b), fun j a b c d => (h2.2 j a b c d).trans (h1.2 j a b c d)⟩
theorem ft_up {D D' : am_D} {j : Nat} {v : Int32} (hj : 38 ≤ j ∧ j ≤ 40) (h : ft D D') : ft D (am_up D' 49 j v) := ⟨fun k hk hq => by rw [am_up_ne hk]; exact h.1 k hk hq, fun i a b c d => by
  rw [am_up_eq]
  unfold upd
  rw [if_neg (by omega)]
  exact h.2 i a b c d⟩
theorem fq_ft {D D' : am_D} (h : ft D D') : fq D D' := ⟨fun k hk => h.1 k (by omega) (by omega), h.2 7 (by omega) (by omega) (by omega) (by omega), h.2 42 (by omega) (by omega) (by omega) (by omega), h.2 51 (by omega) (by omega) (by omega) (by omega)⟩
theorem pm_ft {D D' : am_D} {P : mw_T} (h : pm D P) (f : ft D D') : pm D' P := by
  unfold pm at h ⊢
  rw [f.2 4 (by omega) (by omega) (by omega) (by omega), f.2 13 (by omega) (by omega) (by omega) (by omega), f.2 14 (by omega) (by omega) (by omega) (by omega), f.1 55 (by omega) (by omega), f.1 59 (by omega) (by omega), f.1 53 (by omega) (by omega), f.1 60 (by omega) (by omega)]
  exact h
theorem em_ft {D D' : am_D} {E : mw_T} (h : em D E) (f : ft D D') : em D' E := by
  unfold em at h ⊢
  rw [f.2 7 (by omega) (by omega) (by omega) (by omega), f.1 56 (by omega) (by omega), f.1 57 (by omega) (by omega), f.1 58 (by omega) (by omega)]
  exact h
def fnM_tries : Nat → am_Sp := fun a => match a with
  | 0 => spM_runs
  | 1 => spM_manyShort
  | _ => am_no
theorem mfM_tries : ∀ a, am_mono (fnM_tries a) := fun a => match a with
  | 0 => moM_runs
  | 1 => moM_manyShort
  | _ + 2 => am_no_mono
def spM_tries : am_Sp := fun as D L K => match as with
  | [.ref 49, .int x] => ∃ (P E : mw_T) (pr : Nat → Bool) (j : Nat) (o : Option (Nat × Nat × Nat)), x = nI j ∧ j < 1000 ∧ mw_pok P ∧ mw_eok E ∧ pm D P ∧ em D E ∧ prx (D 49 15) pr ∧ bm D o ∧ bok o ∧ ∀ D', ft D D' → bm D' (mpick o j (mN P E pr) (mW P E pr)) → K none D' L
  | _ => False
theorem moM_tries : am_mono spM_tries := by
  intro as D L K K' hK h
  unfold spM_tries at h ⊢
  split at h
  · obtain ⟨P, E, pr, j, o, h1, h2, h3, h4, h5, h6, h7, h8, h9, h10⟩ := h
    exact ⟨P, E, pr, j, o, h1, h2, h3, h4, h5, h6, h7, h8, h9, fun D' q1 q2 => hK _ _ _ (h10 D' q1 q2)⟩
  · exact h
theorem wpM_tries : ∀ (as : List Value) (D : am_D) (L : am_L) (K : am_K), spM_tries as D L K → am_fit 3 as = true ∧ am_Wp false 0 cdM_tries fnM_tries K 0 (am_lo 3 as) [] D L := by
  intro as D L K h
  unfold spM_tries at h
  split at h
  · obtain ⟨P, E, pr, j, o, rfl, hj, hP, hE, hpm, hem, hpr, hb, hbo, hK⟩ := h
    refine ⟨rfl, am_Wp_bl mfM_tries [] 60 _ _ _ _ _ ?_⟩
    (repeat ((conv => whnf); (first | refine zo0 ?_ | refine zo1 ?_ | refine br_z ?_ | refine br_o ?_ | refine br_zn ?_ | refine br_on ?_ | refine nz2 ?_ | refine nz6 ?_ | refine nz32 ?_ | refine And.intro (by assumption) ?_))); (conv => whnf)
    refine ⟨P, E, pr, 47, by decide +kernel, by decide, hP, hE, hpm, hem, hpr, fun D1 g f1 w1 y1 => ?_⟩
    have ok := mw_run_ok (pr := pr) hP hE 48
    have pm1 := pm_fg hpm f1
    have hn := mN_le P E pr
    have hw := mW_le (pr := pr) hP hE
    have e24 : D1 49 24 = nI (mW P E pr) := by obtain ⟨aL, a16, a17, a18, a19, a20, a21, a22, a23, a24, a25, a26, a27⟩ := w1; exact a24
    have b38 : D1 49 38 = pI o 0 := by rw [f1.2 38 (by omega)]; exact hb.1
    have b39 : D1 49 39 = pI o 1 := by rw [f1.2 39 (by omega)]; exact hb.2.1
    have b40 : D1 49 40 = pI o 2 := by rw [f1.2 40 (by omega)]; exact hb.2.2
    (repeat ((conv => whnf); (first | refine zo0 ?_ | refine zo1 ?_ | refine br_z ?_ | refine br_o ?_ | refine br_zn ?_ | refine br_on ?_ | refine nz2 ?_ | refine nz6 ?_ | refine nz32 ?_ | refine And.intro (by assumption) ?_))); (conv => whnf)
    refine ⟨P, mw_run P E pr 48, fun d hd => ⟨(pm1.2.2.2.2.1 d hd).1, (w1.1 d hd).1, (ok.2.2.2.2.2.2.2.2 d hd).1, (hP.2.2.2.2.2.1 d hd).1⟩, ?_⟩
    (repeat ((conv => whnf); (first | refine zo0 ?_ | refine zo1 ?_ | refine br_z ?_ | refine br_o ?_ | refine br_zn ?_ | refine br_on ?_ | refine nz2 ?_ | refine nz6 ?_ | refine nz32 ?_ | refine And.intro (by assumption) ?_))); (conv => whnf)
    rw [b38]
    have take : mpick o j (mN P E pr) (mW P E pr) = some (j, mN P E pr, mW P E pr) → K none (am_up (am_up (am_up D1 49 38 (nI j)) 49 39 (nI (mN P E pr))) 49 40 (nI (mW P E pr))) L := by
      intro q
      refine hK _ (ft_up (by decide) (ft_up (by decide) (ft_up (by decide) (ft_fg f1)))) ?_
      rw [q]
      refine ⟨?_, ?_, ?_⟩ <;> simp [am_up, upd, pI]
    have leave : mpick o j (mN P E pr) (mW P E pr) = o → K none D1 L := by
      intro q
      refine hK _ (ft_fg f1) ?_
      rw [q]
      exact ⟨b38, b39, b40⟩
    have e24' : ∀ (x y : Int32), am_up (am_up D1 49 38 x) 49 39 y 49 24 = nI (mW P E pr) := by
      intro x y
      simp [am_up, upd, e24]
    cases o with
    | none =>
      refine ⟨fun h1 => ?_, fun h1 => absurd rfl h1⟩
      (repeat ((conv => whnf); (first | refine zo0 ?_ | refine zo1 ?_ | refine br_z ?_ | refine br_o ?_ | refine br_zn ?_ | refine br_on ?_ | refine nz2 ?_ | refine nz6 ?_ | refine nz32 ?_ | refine And.intro (by assumption) ?_))); (conv => whnf)
      rw [e24']
      exact take rfl
    | some q =>
      obtain ⟨b, n0, w0⟩ := q
      obtain ⟨o1, o2, o3⟩ := hbo
      have e38 : ¬ pI (some (b, n0, w0)) 0 = -1 := by
        intro q
        have q' : nI b = -1 := q
        have := nI_toInt (n := b) (by omega)
        rw [q'] at this
        have z : ((-1 : Int32)).toInt = -1 := by decide +kernel
        omega
      refine ⟨fun h1 => absurd h1 e38, fun _ => ?_⟩
      (repeat ((conv => whnf); (first | refine zo0 ?_ | refine zo1 ?_ | refine br_z ?_ | refine br_o ?_ | refine br_zn ?_ | refine br_on ?_ | refine nz2 ?_ | refine nz6 ?_ | refine nz32 ?_ | refine And.intro (by assumption) ?_))); (conv => whnf)
      have b39' : D1 49 39 = nI n0 := b39
      have b40' : D1 49 40 = nI w0 := b40
      rw [b39', show nI (mw_ns P (mw_run P E pr 48) 12) = nI (mN P E pr) from rfl, nI_ltI (by omega) (by omega)]
      refine ⟨fun h2 => ?_, fun h2 => ?_⟩
      · (repeat ((conv => whnf); (first | refine zo0 ?_ | refine zo1 ?_ | refine br_z ?_ | refine br_o ?_ | refine br_zn ?_ | refine br_on ?_ | refine nz2 ?_ | refine nz6 ?_ | refine nz32 ?_ | refine And.intro (by assumption) ?_))); (conv => whnf)
        rw [e24']
        exact take (if_pos (Or.inl h2))
      · (repeat ((conv => whnf); (first | refine zo0 ?_ | refine zo1 ?_ | refine br_z ?_ | refine br_o ?_ | refine br_zn ?_ | refine br_on ?_ | refine nz2 ?_ | refine nz6 ?_ | refine nz32 ?_ | refine And.intro (by assumption) ?_))); (conv => whnf)
        rw [b39', nI_eq (by omega) (by omega)]
        refine ⟨fun h3 => ?_, fun h3 => ?_⟩
        · (repeat ((conv => whnf); (first | refine zo0 ?_ | refine zo1 ?_ | refine br_z ?_ | refine br_o ?_ | refine br_zn ?_ | refine br_on ?_ | refine nz2 ?_ | refine nz6 ?_ | refine nz32 ?_ | refine And.intro (by assumption) ?_))); (conv => whnf)
          exact leave (if_neg (by omega))
        · (repeat ((conv => whnf); (first | refine zo0 ?_ | refine zo1 ?_ | refine br_z ?_ | refine br_o ?_ | refine br_zn ?_ | refine br_on ?_ | refine nz2 ?_ | refine nz6 ?_ | refine nz32 ?_ | refine And.intro (by assumption) ?_))); (conv => whnf)
          rw [e24, b40', nI_leI (by omega) (by omega)]
          refine ⟨fun h4 => ?_, fun h4 => ?_⟩
          · (repeat ((conv => whnf); (first | refine zo0 ?_ | refine zo1 ?_ | refine br_z ?_ | refine br_o ?_ | refine br_zn ?_ | refine br_on ?_ | refine nz2 ?_ | refine nz6 ?_ | refine nz32 ?_ | refine And.intro (by assumption) ?_))); (conv => whnf)
            exact leave (if_neg (by omega))
          · (repeat ((conv => whnf); (first | refine zo0 ?_ | refine zo1 ?_ | refine br_z ?_ | refine br_o ?_ | refine br_zn ?_ | refine br_on ?_ | refine nz2 ?_ | refine nz6 ?_ | refine nz32 ?_ | refine And.intro (by assumption) ?_))); (conv => whnf)
            rw [e24']
            exact take (if_pos (Or.inr ⟨h3, by omega⟩))
  · exact absurd h id
theorem clM_tries (l : Launch) : ∀ (a : Nat) (ins : Instr) (b dd : Nat), csM_tries[a]? = some (ins, b, dd) → am_Call l yM_tries.cls 6 ins b dd (fnM_tries a) := by
  intro a ins b dd h
  match a, h with
  | 0, h => cases h; exact am_callV (T := F_11) (N := 52) (okM_runs l) wcM_runs (am_m5 (i := 120) rfl rfl) wiM_runs wsM_runs inM rfl (by decide) (by decide +kernel) (by decide) (by decide)
  | 1, h => cases h; exact am_callV (T := F_11) (N := 52) (okM_manyShort l) wcM_manyShort (am_m5 (i := 229) rfl rfl) wiM_manyShort wsM_manyShort inM rfl (by decide) (by decide +kernel) (by decide) (by decide)
  | k + 2, h => simp [csM_tries] at h
theorem okM_tries (l : Launch) : am_Ok l yM_tries prog_13_method_55_code 3 none 6 spM_tries := am_ok_of (by decide +kernel) flM_ok kiM_ok klM_ok ckM_tries (clM_tries l) wpM_tries
def fnM_starts : Nat → am_Sp := fun a => match a with
  | 0 => spM_asTold
  | _ => am_no
theorem mfM_starts : ∀ a, am_mono (fnM_starts a) := fun a => match a with
  | 0 => moM_asTold
  | _ + 1 => am_no_mono
def spM_starts : am_Sp := am_ini cdM_starts fnM_starts 15 1
theorem moM_starts : am_mono spM_starts := am_ini_mono mfM_starts
theorem wpM_starts : ∀ (as : List Value) (D : am_D) (L : am_L) (K : am_K), spM_starts as D L K → am_fit 1 as = true ∧ am_Wp false 0 cdM_starts fnM_starts K 0 (am_lo 1 as) [] D L := am_ini_Wp mfM_starts
theorem clM_starts (l : Launch) : ∀ (a : Nat) (ins : Instr) (b dd : Nat), csM_starts[a]? = some (ins, b, dd) → am_Call l yM_starts.cls 4 ins b dd (fnM_starts a) := by
  intro a ins b dd h
  match a, h with
  | 0, h => cases h; exact am_callV (T := F_11) (N := 52) (okM_asTold l) wcM_asTold (am_m5 (i := 116) rfl rfl) wiM_asTold wsM_asTold inM rfl (by decide) (by decide +kernel) (by decide) (by decide)
  | k + 1, h => simp [csM_starts] at h
theorem okM_starts (l : Launch) : am_Ok l yM_starts prog_13_method_54_code 1 none 4 spM_starts := am_ok_of (by decide +kernel) flM_ok kiM_ok klM_ok ckM_starts (clM_starts l) wpM_starts
