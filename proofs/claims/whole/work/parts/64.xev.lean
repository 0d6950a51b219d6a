/-! settings, events, sights of the class -/
theorem ix_set {D D2 : am_D} {v : vs_T} {c n : Nat} (h : ix D v) (hc : c < 3) (hn : n < 100) (f2 : fk (am_up D 14 (4 + c) (nI n)) D2) (c2 : ic0 D2) : ix D2 (am_up v 0 (3 + c) (nI n)) := by
  obtain ⟨⟨a1, ⟨a2, a2'⟩, a3, a4, a5, a6⟩, b, cc⟩ := h
  have g : ∀ k, k < 27 → k ≠ 14 → D2 k = D k := fun k h1 h2 => (f2 k (by omega) (by omega) (by omega) (by omega) (by omega) (by omega)).trans (am_up_ne h2)
  have g' : ∀ k, 36 < k → D2 k = D k := fun k h1 => (f2 k (by omega) (by omega) (by omega) (by omega) (by omega) (by omega)).trans (am_up_ne (by omega))
  have g14 : ∀ j, D2 14 j = if j = 4 + c then nI n else D 14 j := fun j => by
    rw [f2 14 (by omega) (by omega) (by omega) (by omega) (by omega) (by omega), ap, if_pos rfl]
  have e0 : ∀ i, i ≠ 3 + c → am_up v 0 (3 + c) (nI n) 0 i = v 0 i := fun i hi => by rw [ap, if_pos rfl, if_neg hi]
  have ec : ∀ q, q ≠ 0 → am_up v 0 (3 + c) (nI n) q = v q := fun q hq => am_up_ne hq
  have en : vn (am_up v 0 (3 + c) (nI n)) 0 (3 + c) = n := vn_nI (by rw [ap, if_pos rfl, if_pos rfl]) (by omega)
  have eq : ∀ i, i ≠ 3 + c → vn (am_up v 0 (3 + c) (nI n)) 0 i = vn v 0 i := fun i hi => vn_cg (e0 i hi)
  refine ⟨⟨?_, ⟨⟨?_, ?_, ?_, ?_, ?_, ?_⟩, ?_⟩, ?_, ?_, ?_, ?_⟩, ic_0 c2, iw_fr cc (fun k _ _ => g k (by omega) (by omega))⟩
  · exact it_cg (fun i hi => e0 i (by omega)) (ec 1 (by decide)) (it_fr a1 (fun k _ _ => g k (by omega) (by omega)))
  · rw [g14, if_neg (by omega), a2.1]
    show nI (vlen v 2) = nI (vlen _ 2)
    rw [vlen_cg (e0 2 (by omega)) (ec 1 (by decide))]
  · rw [g14]
    show _ = nI (vn _ 0 3)
    by_cases e : 3 = 3 + c
    · have e' : c = 0 := by omega
      subst e'
      rw [if_pos (by omega)]
      exact (congrArg nI en).symm
    · rw [if_neg (by omega), eq 3 e]; exact a2.2.1
  · rw [g14]
    show _ = nI (vn _ 0 4)
    by_cases e : 4 = 3 + c
    · have e' : c = 1 := by omega
      subst e'
      rw [if_pos (by omega)]
      exact (congrArg nI en).symm
    · rw [if_neg (by omega), eq 4 e]; exact a2.2.2.1
  · rw [g14]
    show _ = nI (vn _ 0 5)
    by_cases e : 5 = 3 + c
    · have e' : c = 2 := by omega
      subst e'
      rw [if_pos (by omega)]
      exact (congrArg nI en).symm
    · rw [if_neg (by omega), eq 5 e]; exact a2.2.2.2.1
  · intro d hd
    have := a2.2.2.2.2.1 d hd
    rw [g 15 (by decide) (by decide), g 16 (by decide) (by decide)]
    show _ = nI (vmean _ 0 d) ∧ _ = nI (vmean _ 1 d)
    rw [vmean_cg (e0 0 (by omega)) (ec 1 (by decide)), vmean_cg (e0 1 (by omega)) (ec 1 (by decide))]
    exact this
  · intro d hd
    have := a2.2.2.2.2.2 d hd
    rw [g 17 (by decide) (by decide)]
    show _ = nI (vmean _ 2 d)
    rw [vmean_cg (e0 2 (by omega)) (ec 1 (by decide))]
    exact this
  · rw [g14, if_neg (by omega)]; exact a2'
  · exact ie_cg (e0 6 (by omega)) (ec 2 (by decide)) (ec 3 (by decide)) (ec 4 (by decide)) (ie_fr a3 (fun k _ _ => g k (by omega) (by omega)))
  · exact isg_cg (e0 7 (by omega)) (ec 5 (by decide)) (ec 6 (by decide)) (isg_fr a4 (fun k _ _ => g k (by omega) (by omega)))
  · rw [g 0 (by omega) (by omega), e0 8 (by omega)]; exact a5
  · exact ish_cg (ec 7 (by decide)) (ec 8 (by decide)) (ec 9 (by decide)) (ec 10 (by decide)) (ish_fr a6 (fun k _ _ => g' k (by omega)))
theorem ix_sg {D D1 : am_D} {v v' : vs_T} (h : ix D v) (f : ∀ k, k < 11 ∨ 13 < k → D1 k = D k) (h1 : isg D1 v') (h0 : ∀ i, i ≠ 7 → v' 0 i = v 0 i) (hc : ∀ c, c ≠ 0 → c ≠ 5 → c ≠ 6 → v' c = v c) : ix D1 v' := by
  obtain ⟨⟨a1, a2, a3, a4, a5, a6⟩, b, c⟩ := h
  have e1 := hc 1 (by decide) (by decide) (by decide)
  refine ⟨⟨?_, ?_, ?_, h1, ?_, ?_⟩, ?_, iw_fr c (fun k _ _ => f k (by omega))⟩
  · exact it_cg (fun i hi => h0 i (by omega)) e1 (it_fr a1 (fun k _ _ => f k (by omega)))
  · exact ipl_cg (fun i hi => h0 i (by omega)) e1 (ipl_fr a2 (fun k _ _ => f k (by omega)))
  · exact ie_cg (h0 6 (by omega)) (hc 2 (by decide) (by decide) (by decide)) (hc 3 (by decide) (by decide) (by decide)) (hc 4 (by decide) (by decide) (by decide)) (ie_fr a3 (fun k _ _ => f k (by omega)))
  · rw [f 0 (by omega), h0 8 (by omega)]; exact a5
  · exact ish_cg (hc 7 (by decide) (by decide) (by decide)) (hc 8 (by decide) (by decide) (by decide)) (hc 9 (by decide) (by decide) (by decide)) (hc 10 (by decide) (by decide) (by decide)) (ish_fr a6 (fun k _ _ => f k (by omega)))
  · exact ic_cg ⟨fun i hi => h0 i (by omega), fun q h1 h2 => hc q (by omega) (by omega) (by omega)⟩ (ic_fr b (fun k _ _ => f k (by omega)))
def fnE_add : Nat → am_Sp := fun a => match a with
  | 0 => spX_isMinute
  | 1 => spX_isDoor
  | _ => am_no
theorem mfE_add : ∀ a, am_mono (fnE_add a) := fun a => match a with
  | 0 => moX_isMinute
  | 1 => moX_isDoor
  | _ + 2 => am_no_mono
def spE_add : am_Sp := fun as D L K => match as with
  | [.ref 7, .int x, .int y, .int z] => ∃ v : vs_T, vok v ∧ ie D v ∧ ∀ D', (∀ k, k < 7 ∨ 10 < k → D' k = D k) → ie D' (gEvent v x y z) → K (some (.int (qEvent v x y z))) D' L
  | _ => False
theorem moE_add : am_mono spE_add := by
  intro as D L K K' hK h
  unfold spE_add at h ⊢
  split at h
  · obtain ⟨z0, z1, z2, hz⟩ := h
    exact ⟨z0, z1, z2, fun D' q1 q2 => hK _ _ _ (hz D' q1 q2)⟩
  · exact h
theorem wpE_add : ∀ (as : List Value) (D : am_D) (L : am_L) (K : am_K), spE_add as D L K → am_fit 4 as = true ∧ am_Wp false 0 cdE_add fnE_add K 0 (am_lo 4 as) [] D L := by
  intro as D L K h
  unfold spE_add at h
  split at h
  · rename_i x y z
    obtain ⟨v, hv, hi, hK⟩ := h
    obtain ⟨e0, e1⟩ := vok_ev hv
    have q3 : D 7 3 = nI (vn v 0 6) := hi.1.trans e0
    have kb : ¬ ((0 ≤ x ∧ x ≤ 2) ∧ (0 ≤ y ∧ y ≤ 47) ∧ (0 ≤ z ∧ z ≤ 11)) → K (some (.int (-2))) D L := fun q => by
      have k := hK D (fun _ _ => rfl)
      unfold gEvent qEvent at k
      by_cases c0 : (0 ≤ x ∧ x ≤ 2)
      · by_cases c1 : (0 ≤ y ∧ y ≤ 47)
        · by_cases c2 : (0 ≤ z ∧ z ≤ 11)
          · exact absurd ⟨c0, c1, c2⟩ q
          · rw [if_pos c0, if_pos c0, if_pos c1, if_pos c1, if_neg c2, if_neg c2] at k
            exact k hi
        · rw [if_pos c0, if_pos c0, if_neg c1, if_neg c1] at k
          exact k hi
      · rw [if_neg c0, if_neg c0] at k
        exact k hi
    refine ⟨rfl, am_Wp_bl mfE_add [] 90 _ _ _ _ _ ?_⟩
    (repeat ((conv => whnf); (first | refine zo0 ?_ | refine zo1 ?_ | refine br_z ?_ | refine br_o ?_ | refine br_zn ?_ | refine br_on ?_ | refine nz2 ?_ | refine nz6 ?_ | refine nz32 ?_ | refine And.intro (by assumption) ?_))); (conv => whnf)
    refine ⟨fun h1 => ?_, fun h1 => ?_⟩
    · (repeat ((conv => whnf); (first | refine zo0 ?_ | refine zo1 ?_ | refine br_z ?_ | refine br_o ?_ | refine br_zn ?_ | refine br_on ?_ | refine nz2 ?_ | refine nz6 ?_ | refine nz32 ?_ | refine And.intro (by assumption) ?_))); (conv => whnf)
      exact kb (fun q => rn0 h1 q.1)
    (repeat ((conv => whnf); (first | refine zo0 ?_ | refine zo1 ?_ | refine br_z ?_ | refine br_o ?_ | refine br_zn ?_ | refine br_on ?_ | refine nz2 ?_ | refine nz6 ?_ | refine nz32 ?_ | refine And.intro (by assumption) ?_))); (conv => whnf)
    refine ⟨fun h2 => ?_, fun h2 => ?_⟩
    · (repeat ((conv => whnf); (first | refine zo0 ?_ | refine zo1 ?_ | refine br_z ?_ | refine br_o ?_ | refine br_zn ?_ | refine br_on ?_ | refine nz2 ?_ | refine nz6 ?_ | refine nz32 ?_ | refine And.intro (by assumption) ?_))); (conv => whnf)
      exact kb (fun q => rn3 2 h2 rfl (by omega) q.1)
    have hx : 0 ≤ x ∧ x ≤ 2 := rq3 2 h1 h2
    (repeat ((conv => whnf); (first | refine zo0 ?_ | refine zo1 ?_ | refine br_z ?_ | refine br_o ?_ | refine br_zn ?_ | refine br_on ?_ | refine nz2 ?_ | refine nz6 ?_ | refine nz32 ?_ | refine And.intro (by assumption) ?_))); (conv => whnf)
    refine ⟨fun hm => ?_, fun hm => ?_⟩
    rotate_left
    · (repeat ((conv => whnf); (first | refine zo0 ?_ | refine zo1 ?_ | refine br_z ?_ | refine br_o ?_ | refine br_zn ?_ | refine br_on ?_ | refine nz2 ?_ | refine nz6 ?_ | refine nz32 ?_ | refine And.intro (by assumption) ?_))); (conv => whnf)
      exact kb (fun q => hm (ism_iff.mpr q.2.1))
    have hy := ism_iff.mp hm
    (repeat ((conv => whnf); (first | refine zo0 ?_ | refine zo1 ?_ | refine br_z ?_ | refine br_o ?_ | refine br_zn ?_ | refine br_on ?_ | refine nz2 ?_ | refine nz6 ?_ | refine nz32 ?_ | refine And.intro (by assumption) ?_))); (conv => whnf)
    refine ⟨fun hd => ?_, fun hd => ?_⟩
    rotate_left
    · (repeat ((conv => whnf); (first | refine zo0 ?_ | refine zo1 ?_ | refine br_z ?_ | refine br_o ?_ | refine br_zn ?_ | refine br_on ?_ | refine nz2 ?_ | refine nz6 ?_ | refine nz32 ?_ | refine And.intro (by assumption) ?_))); (conv => whnf)
      exact kb (fun q => hd (isd_iff.mpr q.2.2))
    have hz := isd_iff.mp hd
    (repeat ((conv => whnf); (first | refine zo0 ?_ | refine zo1 ?_ | refine br_z ?_ | refine br_o ?_ | refine br_zn ?_ | refine br_on ?_ | refine nz2 ?_ | refine nz6 ?_ | refine nz32 ?_ | refine And.intro (by assumption) ?_))); (conv => whnf)
    rw [q3]
    refine ⟨fun h3 => absurd h3 (nI_pos (by omega)), fun h3 => ?_⟩
    (repeat ((conv => whnf); (first | refine zo0 ?_ | refine zo1 ?_ | refine br_z ?_ | refine br_o ?_ | refine br_zn ?_ | refine br_on ?_ | refine nz2 ?_ | refine nz6 ?_ | refine nz32 ?_ | refine And.intro (by assumption) ?_))); (conv => whnf)
    rw [q3]
    refine ⟨fun h4 => ?_, fun h4 => ?_⟩
    rotate_left
    · have e8 : vn v 0 6 = 8 := by
        apply Decidable.byContradiction
        intro q
        exact h4 (nI_lt (b := 8) (by omega) (by omega))
      (repeat ((conv => whnf); (first | refine zo0 ?_ | refine zo1 ?_ | refine br_z ?_ | refine br_o ?_ | refine br_zn ?_ | refine br_on ?_ | refine nz2 ?_ | refine nz6 ?_ | refine nz32 ?_ | refine And.intro (by assumption) ?_))); (conv => whnf)
      have k := hK D (fun _ _ => rfl)
      unfold gEvent qEvent at k
      rw [if_pos hx, if_pos hx, if_pos hy, if_pos hy, if_pos hz, if_pos hz, if_pos e8, if_pos e8] at k
      exact k hi
    have n8 : ¬ vn v 0 6 = 8 := fun q => by
      rw [q] at h4
      exact absurd h4 (by decide +kernel)
    have in8 : vp_in (D 7 3) 8 := by rw [q3]; exact vp_in_nI (by omega) (by decide)
    have cn : (D 7 3).toNatClampNeg = vn v 0 6 := by rw [q3]; exact nI_clamp (by omega)
    have kk := hK (am_up (am_up (am_up (am_up D 8 (vn v 0 6) x) 9 (vn v 0 6) y) 10 (vn v 0 6) z) 7 3 (nI (vn v 0 6 + 1))) (fun k hk => by rw [am_up_ne (by omega), am_up_ne (by omega), am_up_ne (by omega), am_up_ne (by omega)])
    unfold gEvent qEvent at kk
    rw [if_pos hx, if_pos hx, if_pos hy, if_pos hy, if_pos hz, if_pos hz, if_neg n8, if_neg n8] at kk
    have kk := kk (by
      refine ⟨by simp [ap], fun i hi' => ?_⟩
      have := hi.2 i hi'
      refine ⟨?_, ?_, ?_⟩
      · simp only [ap]; grind
      · simp only [ap]; grind
      · simp only [ap]; grind)
    (repeat ((conv => whnf); (first | refine zo0 ?_ | refine zo1 ?_ | refine br_z ?_ | refine br_o ?_ | refine br_zn ?_ | refine br_on ?_ | refine nz2 ?_ | refine nz6 ?_ | refine nz32 ?_ | refine And.intro (by assumption) ?_))); (conv => whnf)
    try simp only [cn, am_up_ne (show (7 : Nat) ≠ 8 by decide), am_up_ne (show (7 : Nat) ≠ 9 by decide), am_up_ne (show (7 : Nat) ≠ 10 by decide), ap_s, q3, nI_1]
    (repeat ((conv => whnf); (first | refine zo0 ?_ | refine zo1 ?_ | refine br_z ?_ | refine br_o ?_ | refine br_zn ?_ | refine br_on ?_ | refine nz2 ?_ | refine nz6 ?_ | refine nz32 ?_ | refine And.intro (by assumption) ?_))); (conv => whnf)
    try simp only [cn, am_up_ne (show (7 : Nat) ≠ 8 by decide), am_up_ne (show (7 : Nat) ≠ 9 by decide), am_up_ne (show (7 : Nat) ≠ 10 by decide), ap_s, q3, nI_1, nI_clamp (show vn v 0 6 < 2 ^ 31 by omega)]
    have in8' : vp_in (nI (vn v 0 6)) 8 := vp_in_nI (by omega) (by decide)
    (repeat ((conv => whnf); (first | refine zo0 ?_ | refine zo1 ?_ | refine br_z ?_ | refine br_o ?_ | refine br_zn ?_ | refine br_on ?_ | refine nz2 ?_ | refine nz6 ?_ | refine nz32 ?_ | refine And.intro (by assumption) ?_))); (conv => whnf)
    try simp only [cn, am_up_ne (show (7 : Nat) ≠ 8 by decide), am_up_ne (show (7 : Nat) ≠ 9 by decide), am_up_ne (show (7 : Nat) ≠ 10 by decide), ap_s, q3, nI_1, nI_clamp (show vn v 0 6 < 2 ^ 31 by omega)]
    (repeat ((conv => whnf); (first | refine zo0 ?_ | refine zo1 ?_ | refine br_z ?_ | refine br_o ?_ | refine br_zn ?_ | refine br_on ?_ | refine nz2 ?_ | refine nz6 ?_ | refine nz32 ?_ | refine And.intro (by assumption) ?_))); (conv => whnf)
    try simp only [cn, am_up_ne (show (7 : Nat) ≠ 8 by decide), am_up_ne (show (7 : Nat) ≠ 9 by decide), am_up_ne (show (7 : Nat) ≠ 10 by decide), ap_s, q3, nI_1, nI_clamp (show vn v 0 6 < 2 ^ 31 by omega)]
    exact kk
  · exact absurd h id
theorem clE_add (l : Launch) : ∀ (a : Nat) (ins : Instr) (b dd : Nat), csE_add[a]? = some (ins, b, dd) → am_Call l yE_add.cls 1 ins b dd (fnE_add a) := by
  intro a ins b dd h
  match a, h with
  | 0, h => cases h; exact am_callSN (okX_isMinute l) wcX_isMinute (am_n2 (i := 222) rfl rfl) wtX_isMinute inX (by decide +kernel) (by decide) (by decide)
  | 1, h => cases h; exact am_callSN (okX_isDoor l) wcX_isDoor (am_n2 (i := 225) rfl rfl) wtX_isDoor inX (by decide +kernel) (by decide) (by decide)
  | k + 2, h => simp [csE_add] at h
theorem okE_add (l : Launch) : am_Ok l yE_add prog_5_method_2_code 4 (some .int) 1 spE_add := am_ok_of (by decide +kernel) flE_ok kiE_ok klE_ok ckE_add (clE_add l) wpE_add
def fnE_drop : Nat → am_Sp := fun _ => am_no
theorem mfE_drop : ∀ a, am_mono (fnE_drop a) := fun _ => am_no_mono
def spE_drop : am_Sp := am_ini cdE_drop fnE_drop 17 1
theorem moE_drop : am_mono spE_drop := am_ini_mono mfE_drop
theorem wpE_drop : ∀ (as : List Value) (D : am_D) (L : am_L) (K : am_K), spE_drop as D L K → am_fit 1 as = true ∧ am_Wp false 0 cdE_drop fnE_drop K 0 (am_lo 1 as) [] D L := am_ini_Wp mfE_drop
theorem clE_drop (l : Launch) : ∀ (a : Nat) (ins : Instr) (b dd : Nat), csE_drop[a]? = some (ins, b, dd) → am_Call l yE_drop.cls 0 ins b dd (fnE_drop a) := by
  intro a ins b dd h
  match a, h with
  | k + 0, h => simp [csE_drop] at h
theorem okE_drop (l : Launch) : am_Ok l yE_drop prog_5_method_3_code 1 (some .int) 0 spE_drop := am_ok_of (by decide +kernel) flE_ok kiE_ok klE_ok ckE_drop (clE_drop l) wpE_drop
def fnS_add : Nat → am_Sp := fun _ => am_no
theorem mfS_add : ∀ a, am_mono (fnS_add a) := fun _ => am_no_mono
def spS_add : am_Sp := am_ini cdS_add fnS_add 33 3
theorem moS_add : am_mono spS_add := am_ini_mono mfS_add
theorem wpS_add : ∀ (as : List Value) (D : am_D) (L : am_L) (K : am_K), spS_add as D L K → am_fit 3 as = true ∧ am_Wp false 0 cdS_add fnS_add K 0 (am_lo 3 as) [] D L := am_ini_Wp mfS_add
theorem clS_add (l : Launch) : ∀ (a : Nat) (ins : Instr) (b dd : Nat), csS_add[a]? = some (ins, b, dd) → am_Call l yS_add.cls 0 ins b dd (fnS_add a) := by
  intro a ins b dd h
  match a, h with
  | k + 0, h => simp [csS_add] at h
theorem okS_add (l : Launch) : am_Ok l yS_add prog_8_method_2_code 3 (some .int) 0 spS_add := am_ok_of (by decide +kernel) flS_ok kiS_ok klS_ok ckS_add (clS_add l) wpS_add
def fnS_clear : Nat → am_Sp := fun _ => am_no
theorem mfS_clear : ∀ a, am_mono (fnS_clear a) := fun _ => am_no_mono
def spS_clear : am_Sp := am_ini cdS_clear fnS_clear 11 2
theorem moS_clear : am_mono spS_clear := am_ini_mono mfS_clear
theorem wpS_clear : ∀ (as : List Value) (D : am_D) (L : am_L) (K : am_K), spS_clear as D L K → am_fit 2 as = true ∧ am_Wp false 0 cdS_clear fnS_clear K 0 (am_lo 2 as) [] D L := am_ini_Wp mfS_clear
theorem clS_clear (l : Launch) : ∀ (a : Nat) (ins : Instr) (b dd : Nat), csS_clear[a]? = some (ins, b, dd) → am_Call l yS_clear.cls 0 ins b dd (fnS_clear a) := by
  intro a ins b dd h
  match a, h with
  | k + 0, h => simp [csS_clear] at h
theorem okS_clear (l : Launch) : am_Ok l yS_clear prog_8_method_3_code 2 (some .int) 0 spS_clear := am_ok_of (by decide +kernel) flS_ok kiS_ok klS_ok ckS_clear (clS_clear l) wpS_clear
def fnX_event : Nat → am_Sp := fun a => match a with
  | 0 => spE_add
  | 1 => spX_forgetMornings
  | _ => am_no
theorem mfX_event : ∀ a, am_mono (fnX_event a) := fun a => match a with
  | 0 => moE_add
  | 1 => moX_forgetMornings
  | _ + 2 => am_no_mono
def spX_event : am_Sp := fun as D L K => match as with
  | [.ref 0, .int x, .int y, .int z] => ∃ v : vs_T, vok v ∧ ix D v ∧ ∀ (D' : am_D) (L' : am_L), fc D D' → ix D' (gEvent v x y z) → K (some (.int (qEvent v x y z))) D' L'
  | _ => False
theorem moX_event : am_mono spX_event := by
  intro as D L K K' hK h
  unfold spX_event at h ⊢
  split at h
  · obtain ⟨z0, z1, z2, hz⟩ := h
    exact ⟨z0, z1, z2, fun D' L' q1 q2 => hK _ _ _ (hz D' L' q1 q2)⟩
  · exact h
theorem wpX_event : ∀ (as : List Value) (D : am_D) (L : am_L) (K : am_K), spX_event as D L K → am_fit 5 as = true ∧ am_Wp false 0 cdX_event fnX_event K 0 (am_lo 5 as) [] D L := by
  intro as D L K h
  unfold spX_event at h
  split at h
  · rename_i x y z
    obtain ⟨v, hv, hi, hK⟩ := h
    refine ⟨rfl, am_Wp_bl mfX_event [] 60 _ _ _ _ _ ?_⟩
    (repeat ((conv => whnf); (first | refine zo0 ?_ | refine zo1 ?_ | refine br_z ?_ | refine br_o ?_ | refine br_zn ?_ | refine br_on ?_ | refine nz2 ?_ | refine nz6 ?_ | refine nz32 ?_ | refine And.intro (by assumption) ?_))); (conv => whnf)
    refine ⟨v, hv, hi.1.2.2.1, fun D1 f1 h1 => ?_⟩
    (repeat ((conv => whnf); (first | refine zo0 ?_ | refine zo1 ?_ | refine br_z ?_ | refine br_o ?_ | refine br_zn ?_ | refine br_on ?_ | refine nz2 ?_ | refine nz6 ?_ | refine nz32 ?_ | refine And.intro (by assumption) ?_))); (conv => whnf)
    refine ⟨fun h2 => ?_, fun h2 => ?_⟩
    · have ev := gEvent_no h2 hv
      (repeat ((conv => whnf); (first | refine zo0 ?_ | refine zo1 ?_ | refine br_z ?_ | refine br_o ?_ | refine br_zn ?_ | refine br_on ?_ | refine nz2 ?_ | refine nz6 ?_ | refine nz32 ?_ | refine And.intro (by assumption) ?_))); (conv => whnf)
      refine hK D1 L (fun k hk => f1 k (by omega)) ?_
      rw [ev] at h1 ⊢
      exact ix_ie hi f1 h1
    · (repeat ((conv => whnf); (first | refine zo0 ?_ | refine zo1 ?_ | refine br_z ?_ | refine br_o ?_ | refine br_zn ?_ | refine br_on ?_ | refine nz2 ?_ | refine nz6 ?_ | refine nz32 ?_ | refine And.intro (by assumption) ?_))); (conv => whnf)
      intro D2 f2 c2
      (repeat ((conv => whnf); (first | refine zo0 ?_ | refine zo1 ?_ | refine br_z ?_ | refine br_o ?_ | refine br_zn ?_ | refine br_on ?_ | refine nz2 ?_ | refine nz6 ?_ | refine nz32 ?_ | refine And.intro (by assumption) ?_))); (conv => whnf)
      exact hK D2 L (fun k hk => (f2 k (by omega) (by omega) (by omega) (by omega) (by omega) (by omega)).trans (f1 k (by omega))) (ix_ev hi f1 h1 (fun i hi => gEvent_0 hi) gEvent_1 (fun c hc => gEvent_c hc) f2 c2)
  · exact absurd h id
theorem clX_event (l : Launch) : ∀ (a : Nat) (ins : Instr) (b dd : Nat), csX_event[a]? = some (ins, b, dd) → am_Call l yX_event.cls 2 ins b dd (fnX_event a) := by
  intro a ins b dd h
  match a, h with
  | 0, h => cases h; exact am_callV (T := F_3) (N := 4) (okE_add l) wcE_add (am_m2 (i := 218) rfl rfl) wiE_add wsE_add inE rfl (by decide) (by decide +kernel) (by decide) (by decide)
  | 1, h => cases h; exact am_callV (T := F_10) (N := 17) (okX_forgetMornings l) wcX_forgetMornings (am_m2 (i := 170) rfl rfl) wiX_forgetMornings wsX_forgetMornings inX rfl (by decide) (by decide +kernel) (by decide) (by decide)
  | k + 2, h => simp [csX_event] at h
theorem okX_event (l : Launch) : am_Ok l yX_event prog_1_method_9_code 5 (some .int) 2 spX_event := am_ok_of (by decide +kernel) flX_ok kiX_ok klX_ok ckX_event (clX_event l) wpX_event
def fnX_back : Nat → am_Sp := fun a => match a with
  | 0 => spE_drop
  | 1 => spX_forgetMornings
  | _ => am_no
theorem mfX_back : ∀ a, am_mono (fnX_back a) := fun a => match a with
  | 0 => moE_drop
  | 1 => moX_forgetMornings
  | _ + 2 => am_no_mono
def spX_back : am_Sp := fun as D L K => match as with
  | [.ref 0] => ∃ v : vs_T, vok v ∧ ix D v ∧ ∀ (D' : am_D) (L' : am_L), fc D D' → ix D' (gBack v) → K (some (.int (qBack v))) D' L'
  | _ => False
theorem moX_back : am_mono spX_back := by
  intro as D L K K' hK h
  unfold spX_back at h ⊢
  split at h
  · obtain ⟨z0, z1, z2, hz⟩ := h
    exact ⟨z0, z1, z2, fun D' L' q1 q2 => hK _ _ _ (hz D' L' q1 q2)⟩
  · exact h
theorem wpX_back : ∀ (as : List Value) (D : am_D) (L : am_L) (K : am_K), spX_back as D L K → am_fit 2 as = true ∧ am_Wp false 0 cdX_back fnX_back K 0 (am_lo 2 as) [] D L := by
  intro as D L K h
  unfold spX_back at h
  split at h
  · obtain ⟨v, hv, hi, hK⟩ := h
    obtain ⟨e0, e1⟩ := vok_ev hv
    have q3 : D 7 3 = nI (vn v 0 6) := hi.1.2.2.1.1.trans e0
    refine ⟨rfl, am_Wp_bl mfX_back [] 60 _ _ _ _ _ ?_⟩
    (repeat ((conv => whnf); (first | refine zo0 ?_ | refine zo1 ?_ | refine br_z ?_ | refine br_o ?_ | refine br_zn ?_ | refine br_on ?_ | refine nz2 ?_ | refine nz6 ?_ | refine nz32 ?_ | refine And.intro (by assumption) ?_))); (conv => whnf)
    rw [q3]
    refine ⟨fun h1 => ?_, fun h1 => ?_⟩
    rotate_left
    · have h2 : vn v 0 6 = 0 := by
        apply Decidable.byContradiction
        intro q
        exact h1 (by rw [nle_lt]; exact nI_nle (by omega) (by omega))
      (repeat ((conv => whnf); (first | refine zo0 ?_ | refine zo1 ?_ | refine br_z ?_ | refine br_o ?_ | refine br_zn ?_ | refine br_on ?_ | refine nz2 ?_ | refine nz6 ?_ | refine nz32 ?_ | refine And.intro (by assumption) ?_))); (conv => whnf)
      refine ⟨fun _ => ?_, fun q => absurd rfl q⟩
      (repeat ((conv => whnf); (first | refine zo0 ?_ | refine zo1 ?_ | refine br_z ?_ | refine br_o ?_ | refine br_zn ?_ | refine br_on ?_ | refine nz2 ?_ | refine nz6 ?_ | refine nz32 ?_ | refine And.intro (by assumption) ?_))); (conv => whnf)
      have k := hK D L fc_rf
      unfold gBack qBack at k
      rw [if_pos h2, if_pos h2] at k
      exact k hi
    have h2 : ¬ vn v 0 6 = 0 := fun q => by
      rw [q, nI_0] at h1
      exact absurd h1 (by decide)
    (repeat ((conv => whnf); (first | refine zo0 ?_ | refine zo1 ?_ | refine br_z ?_ | refine br_o ?_ | refine br_zn ?_ | refine br_on ?_ | refine nz2 ?_ | refine nz6 ?_ | refine nz32 ?_ | refine And.intro (by assumption) ?_))); (conv => whnf)
    rw [q3, nI_sub1 (by omega), ap_s]
    refine ⟨fun q => absurd q (nI_m3 _ (by omega)), fun _ => ?_⟩
    (repeat ((conv => whnf); (first | refine zo0 ?_ | refine zo1 ?_ | refine br_z ?_ | refine br_o ?_ | refine br_zn ?_ | refine br_on ?_ | refine nz2 ?_ | refine nz6 ?_ | refine nz32 ?_ | refine And.intro (by assumption) ?_))); (conv => whnf)
    intro D2 f2 c2
    (repeat ((conv => whnf); (first | refine zo0 ?_ | refine zo1 ?_ | refine br_z ?_ | refine br_o ?_ | refine br_zn ?_ | refine br_on ?_ | refine nz2 ?_ | refine nz6 ?_ | refine nz32 ?_ | refine And.intro (by assumption) ?_))); (conv => whnf)
    have k := hK D2 L (fun k hk => (f2 k (by omega) (by omega) (by omega) (by omega) (by omega) (by omega)).trans (am_up_ne (by omega)))
    unfold gBack qBack at k
    rw [if_neg h2, if_neg h2] at k
    refine k (ix_ev hi (fun k hk => am_up_ne (by omega)) ?_ (fun i hi => by rw [ap, if_pos rfl, if_neg hi]) (am_up_ne (by decide)) (fun c hc => am_up_ne (by omega)) f2 c2)
    refine ⟨by simp [ap], fun i hi' => ?_⟩
    have := hi.1.2.2.1.2 i hi'
    simpa [ap] using this
  · exact absurd h id
theorem clX_back (l : Launch) : ∀ (a : Nat) (ins : Instr) (b dd : Nat), csX_back[a]? = some (ins, b, dd) → am_Call l yX_back.cls 1 ins b dd (fnX_back a) := by
  intro a ins b dd h
  match a, h with
  | 0, h => cases h; exact am_callV (T := F_3) (N := 4) (okE_drop l) wcE_drop (am_m2 (i := 230) rfl rfl) wiE_drop wsE_drop inE rfl (by decide) (by decide +kernel) (by decide) (by decide)
  | 1, h => cases h; exact am_callV (T := F_10) (N := 17) (okX_forgetMornings l) wcX_forgetMornings (am_m2 (i := 170) rfl rfl) wiX_forgetMornings wsX_forgetMornings inX rfl (by decide) (by decide +kernel) (by decide) (by decide)
  | k + 2, h => simp [csX_back] at h
theorem okX_back (l : Launch) : am_Ok l yX_back prog_1_method_10_code 2 (some .int) 1 spX_back := am_ok_of (by decide +kernel) flX_ok kiX_ok klX_ok ckX_back (clX_back l) wpX_back
def fnX_seen : Nat → am_Sp := fun a => match a with
  | 0 => spX_isMinute
  | 1 => spX_isDoor
  | 2 => spS_add
  | _ => am_no
theorem mfX_seen : ∀ a, am_mono (fnX_seen a) := fun a => match a with
  | 0 => moX_isMinute
  | 1 => moX_isDoor
  | 2 => moS_add
  | _ + 3 => am_no_mono
def spX_seen : am_Sp := fun as D L K => match as with
  | [.ref 0, .int x, .int y] => ∃ v : vs_T, vok v ∧ ix D v ∧ ∀ (D' : am_D) (L' : am_L), fc D D' → ix D' (gSeen v x y) → K (some (.int (qSeen v x y))) D' L'
  | _ => False
theorem moX_seen : am_mono spX_seen := by
  intro as D L K K' hK h
  unfold spX_seen at h ⊢
  split at h
  · obtain ⟨z0, z1, z2, hz⟩ := h
    exact ⟨z0, z1, z2, fun D' L' q1 q2 => hK _ _ _ (hz D' L' q1 q2)⟩
  · exact h
theorem wpX_seen : ∀ (as : List Value) (D : am_D) (L : am_L) (K : am_K), spX_seen as D L K → am_fit 3 as = true ∧ am_Wp false 0 cdX_seen fnX_seen K 0 (am_lo 3 as) [] D L := by
  intro as D L K h
  unfold spX_seen at h
  split at h
  · rename_i x y
    obtain ⟨v, hv, hi, hK⟩ := h
    have kb : ¬ ((0 ≤ x ∧ x ≤ 47) ∧ (0 ≤ y ∧ y ≤ 11)) → K (some (.int (-2))) D L := fun q => by
      have k := hK D L fc_rf
      unfold qSeen gSeen at k
      by_cases c0 : (0 ≤ x ∧ x ≤ 47)
      · by_cases c1 : (0 ≤ y ∧ y ≤ 11)
        · exact absurd ⟨c0, c1⟩ q
        · rw [if_pos c0, if_pos c0, if_neg c1, if_neg c1] at k
          exact k hi
      · rw [if_neg c0, if_neg c0] at k
        exact k hi
    obtain ⟨e0, e1⟩ := vok_se hv
    have q3 : D 11 2 = nI (vn v 0 7) := hi.1.2.2.2.1.1.trans e0
    refine ⟨rfl, am_Wp_bl mfX_seen [] 90 _ _ _ _ _ ?_⟩
    (repeat ((conv => whnf); (first | refine zo0 ?_ | refine zo1 ?_ | refine br_z ?_ | refine br_o ?_ | refine br_zn ?_ | refine br_on ?_ | refine nz2 ?_ | refine nz6 ?_ | refine nz32 ?_ | refine And.intro (by assumption) ?_))); (conv => whnf)
    refine ⟨fun hm => ?_, fun hm => ?_⟩
    rotate_left
    · (repeat ((conv => whnf); (first | refine zo0 ?_ | refine zo1 ?_ | refine br_z ?_ | refine br_o ?_ | refine br_zn ?_ | refine br_on ?_ | refine nz2 ?_ | refine nz6 ?_ | refine nz32 ?_ | refine And.intro (by assumption) ?_))); (conv => whnf)
      exact kb (fun q => hm (ism_iff.mpr q.1))
    have hx := ism_iff.mp hm
    (repeat ((conv => whnf); (first | refine zo0 ?_ | refine zo1 ?_ | refine br_z ?_ | refine br_o ?_ | refine br_zn ?_ | refine br_on ?_ | refine nz2 ?_ | refine nz6 ?_ | refine nz32 ?_ | refine And.intro (by assumption) ?_))); (conv => whnf)
    refine ⟨fun hd => ?_, fun hd => ?_⟩
    rotate_left
    · (repeat ((conv => whnf); (first | refine zo0 ?_ | refine zo1 ?_ | refine br_z ?_ | refine br_o ?_ | refine br_zn ?_ | refine br_on ?_ | refine nz2 ?_ | refine nz6 ?_ | refine nz32 ?_ | refine And.intro (by assumption) ?_))); (conv => whnf)
      exact kb (fun q => hd (isd_iff.mpr q.2))
    have hy := isd_iff.mp hd
    (repeat ((conv => whnf); (first | refine zo0 ?_ | refine zo1 ?_ | refine br_z ?_ | refine br_o ?_ | refine br_zn ?_ | refine br_on ?_ | refine nz2 ?_ | refine nz6 ?_ | refine nz32 ?_ | refine And.intro (by assumption) ?_))); (conv => whnf)
    rw [q3]
    refine ⟨fun h3 => absurd h3 (nI_pos (by omega)), fun h3 => ?_⟩
    (repeat ((conv => whnf); (first | refine zo0 ?_ | refine zo1 ?_ | refine br_z ?_ | refine br_o ?_ | refine br_zn ?_ | refine br_on ?_ | refine nz2 ?_ | refine nz6 ?_ | refine nz32 ?_ | refine And.intro (by assumption) ?_))); (conv => whnf)
    rw [q3]
    refine ⟨fun h4 => ?_, fun h4 => ?_⟩
    rotate_left
    · have e8 : vn v 0 7 = 8 := by
        apply Decidable.byContradiction
        intro q
        exact h4 (nI_lt (b := 8) (by omega) (by omega))
      (repeat ((conv => whnf); (first | refine zo0 ?_ | refine zo1 ?_ | refine br_z ?_ | refine br_o ?_ | refine br_zn ?_ | refine br_on ?_ | refine nz2 ?_ | refine nz6 ?_ | refine nz32 ?_ | refine And.intro (by assumption) ?_))); (conv => whnf)
      have k := hK D L fc_rf
      unfold gSeen qSeen at k
      rw [if_pos hx, if_pos hx, if_pos hy, if_pos hy, if_pos e8, if_pos e8] at k
      exact k hi
    have n8 : ¬ vn v 0 7 = 8 := fun q => by
      rw [q] at h4
      exact absurd h4 (by decide +kernel)
    have in8 : vp_in (D 11 2) 8 := by rw [q3]; exact vp_in_nI (by omega) (by decide)
    have cn : (D 11 2).toNatClampNeg = vn v 0 7 := by rw [q3]; exact nI_clamp (by omega)
    have cn' : (nI (vn v 0 7)).toNatClampNeg = vn v 0 7 := nI_clamp (by omega)
    have in8' : vp_in (nI (vn v 0 7)) 8 := vp_in_nI (by omega) (by decide)
    have kk := hK (am_up (am_up (am_up D 12 (vn v 0 7) x) 13 (vn v 0 7) y) 11 2 (nI (vn v 0 7 + 1))) L (fun k hk => by rw [am_up_ne (by omega), am_up_ne (by omega), am_up_ne (by omega)])
    unfold gSeen qSeen at kk
    rw [if_pos hx, if_pos hx, if_pos hy, if_pos hy, if_neg n8, if_neg n8] at kk
    have kk := kk (by
      refine ix_sg hi (fun k hk => by rw [am_up_ne (by omega), am_up_ne (by omega), am_up_ne (by omega)]) ⟨by simp [ap], fun i hi' => ?_⟩ (fun i h7 => by rw [ap, if_pos rfl, if_neg h7, am_up_ne (by decide), am_up_ne (by decide)]) (fun c h0 h5 h6 => by rw [am_up_ne h0, am_up_ne h6, am_up_ne h5])
      have := hi.1.2.2.2.1.2 i hi'
      refine ⟨?_, ?_⟩
      · simp only [ap]; grind
      · simp only [ap]; grind)
    (repeat ((conv => whnf); (first | refine zo0 ?_ | refine zo1 ?_ | refine br_z ?_ | refine br_o ?_ | refine br_zn ?_ | refine br_on ?_ | refine nz2 ?_ | refine nz6 ?_ | refine nz32 ?_ | refine And.intro (by assumption) ?_))); (conv => whnf)
    try simp only [cn, am_up_ne (show (11 : Nat) ≠ 12 by decide), am_up_ne (show (11 : Nat) ≠ 13 by decide), ap_s, q3, nI_1, cn']
    (repeat ((conv => whnf); (first | refine zo0 ?_ | refine zo1 ?_ | refine br_z ?_ | refine br_o ?_ | refine br_zn ?_ | refine br_on ?_ | refine nz2 ?_ | refine nz6 ?_ | refine nz32 ?_ | refine And.intro (by assumption) ?_))); (conv => whnf)
    try simp only [cn, am_up_ne (show (11 : Nat) ≠ 12 by decide), am_up_ne (show (11 : Nat) ≠ 13 by decide), ap_s, q3, nI_1, cn']
    (repeat ((conv => whnf); (first | refine zo0 ?_ | refine zo1 ?_ | refine br_z ?_ | refine br_o ?_ | refine br_zn ?_ | refine br_on ?_ | refine nz2 ?_ | refine nz6 ?_ | refine nz32 ?_ | refine And.intro (by assumption) ?_))); (conv => whnf)
    try simp only [cn, am_up_ne (show (11 : Nat) ≠ 12 by decide), am_up_ne (show (11 : Nat) ≠ 13 by decide), ap_s, q3, nI_1, cn']
    exact kk
  · exact absurd h id
theorem clX_seen (l : Launch) : ∀ (a : Nat) (ins : Instr) (b dd : Nat), csX_seen[a]? = some (ins, b, dd) → am_Call l yX_seen.cls 1 ins b dd (fnX_seen a) := by
  intro a ins b dd h
  match a, h with
  | 0, h => cases h; exact am_callS (okX_isMinute l) wcX_isMinute (am_m3 (i := 10) rfl rfl) wtX_isMinute inX (by decide +kernel) (by decide) (by decide)
  | 1, h => cases h; exact am_callS (okX_isDoor l) wcX_isDoor (am_m2 (i := 199) rfl rfl) wtX_isDoor inX (by decide +kernel) (by decide) (by decide)
  | 2, h => cases h; exact am_callV (T := F_6) (N := 3) (okS_add l) wcS_add (am_m3 (i := 180) rfl rfl) wiS_add wsS_add inS rfl (by decide) (by decide +kernel) (by decide) (by decide)
  | k + 3, h => simp [csX_seen] at h
theorem okX_seen (l : Launch) : am_Ok l yX_seen prog_1_method_22_code 3 (some .int) 1 spX_seen := am_ok_of (by decide +kernel) flX_ok kiX_ok klX_ok ckX_seen (clX_seen l) wpX_seen
def fnX_forget : Nat → am_Sp := fun a => match a with
  | 0 => spS_clear
  | _ => am_no
theorem mfX_forget : ∀ a, am_mono (fnX_forget a) := fun a => match a with
  | 0 => moS_clear
  | _ + 1 => am_no_mono
def spX_forget : am_Sp := fun as D L K => match as with
  | [.ref 0] => ∃ v : vs_T, vok v ∧ ix D v ∧ ∀ (D' : am_D) (L' : am_L), fc D D' → ix D' (gForget v) → K (some (.int (qForget v))) D' L'
  | _ => False
theorem moX_forget : am_mono spX_forget := by
  intro as D L K K' hK h
  unfold spX_forget at h ⊢
  split at h
  · obtain ⟨z0, z1, z2, hz⟩ := h
    exact ⟨z0, z1, z2, fun D' L' q1 q2 => hK _ _ _ (hz D' L' q1 q2)⟩
  · exact h
theorem wpX_forget : ∀ (as : List Value) (D : am_D) (L : am_L) (K : am_K), spX_forget as D L K → am_fit 1 as = true ∧ am_Wp false 0 cdX_forget fnX_forget K 0 (am_lo 1 as) [] D L := by
  intro as D L K h
  unfold spX_forget at h
  split at h
  · obtain ⟨v, hv, hi, hK⟩ := h
    refine ⟨rfl, am_Wp_bl mfX_forget [] 60 _ _ _ _ _ ?_⟩
    (repeat ((conv => whnf); (first | refine zo0 ?_ | refine zo1 ?_ | refine br_z ?_ | refine br_o ?_ | refine br_zn ?_ | refine br_on ?_ | refine nz2 ?_ | refine nz6 ?_ | refine nz32 ?_ | refine And.intro (by assumption) ?_))); (conv => whnf)
    have k := hK (am_up D 11 2 0) L (fun k hk => am_up_ne (by omega)) (ix_sg hi (fun k hk => am_up_ne (by omega)) ⟨by simp [ap, gForget], fun i hi' => by
      have := hi.1.2.2.2.1.2 i hi'
      unfold gForget
      rw [am_up_ne (by decide), am_up_ne (by decide), am_up_ne (by decide), am_up_ne (by decide)]
      exact this⟩ (fun i h7 => by unfold gForget; rw [ap, if_pos rfl, if_neg h7]) (fun c h0 h5 h6 => by unfold gForget; rw [am_up_ne h0]))
    unfold qForget at k
    rw [← hi.1.2.2.2.1.1] at k
    exact k
  · exact absurd h id
theorem clX_forget (l : Launch) : ∀ (a : Nat) (ins : Instr) (b dd : Nat), csX_forget[a]? = some (ins, b, dd) → am_Call l yX_forget.cls 1 ins b dd (fnX_forget a) := by
  intro a ins b dd h
  match a, h with
  | 0, h => cases h; exact am_callV (T := F_6) (N := 3) (okS_clear l) wcS_clear (am_m3 (i := 188) rfl rfl) wiS_clear wsS_clear inS rfl (by decide) (by decide +kernel) (by decide) (by decide)
  | k + 1, h => simp [csX_forget] at h
theorem okX_forget (l : Launch) : am_Ok l yX_forget prog_1_method_23_code 1 (some .int) 1 spX_forget := am_ok_of (by decide +kernel) flX_ok kiX_ok klX_ok ckX_forget (clX_forget l) wpX_forget
def fnX_set : Nat → am_Sp := fun a => match a with
  | 0 => spX_forgetMornings
  | _ => am_no
theorem mfX_set : ∀ a, am_mono (fnX_set a) := fun a => match a with
  | 0 => moX_forgetMornings
  | _ + 1 => am_no_mono
def spX_set : am_Sp := fun as D L K => match as with
  | [.ref 0, .int x, .int y] => ∃ v : vs_T, vok v ∧ ix D v ∧ ∀ (D' : am_D) (L' : am_L), fc D D' → ix D' (gSet v x y) → K (some (.int (qSet v x y))) D' L'
  | _ => False
theorem moX_set : am_mono spX_set := by
  intro as D L K K' hK h
  unfold spX_set at h ⊢
  split at h
  · obtain ⟨z0, z1, z2, hz⟩ := h
    exact ⟨z0, z1, z2, fun D' L' q1 q2 => hK _ _ _ (hz D' L' q1 q2)⟩
  · exact h
theorem wpX_set : ∀ (as : List Value) (D : am_D) (L : am_L) (K : am_K), spX_set as D L K → am_fit 4 as = true ∧ am_Wp false 0 cdX_set fnX_set K 0 (am_lo 4 as) [] D L := by
  intro as D L K h
  unfold spX_set at h
  split at h
  · rename_i x y
    obtain ⟨v, hv, hi, hK⟩ := h
    have kb : gSet v x y = v → qSet v x y = -2 → K (some (.int (-2))) D L := fun q1 q2 => by
      have k := hK D L fc_rf
      rw [q1, q2] at k
      exact k hi
    have kb0 : x = 0 → ¬ (0 ≤ y ∧ y ≤ 2) → K (some (.int (-2))) D L := fun e q => by
      subst e
      refine kb ?_ ?_
      · unfold gSet; rw [if_pos rfl, if_neg q]
      · unfold qSet; rw [if_pos rfl, if_neg q]
    have kg0 : x = 0 → (0 ≤ y ∧ y ≤ 2) → ∀ D2, fk (am_up D 14 4 y) D2 → ic0 D2 → K (some (.int (D 14 4))) D2 L := fun e q D2 f2 c2 => by
      subst e
      obtain ⟨n, hn, en⟩ := rg_nI (n := 2) (by decide) q
      have k := hK D2 L (fun k hk => (f2 k (by omega) (by omega) (by omega) (by omega) (by omega) (by omega)).trans (am_up_ne (by omega)))
      unfold gSet qSet at k
      rw [if_pos rfl, if_pos rfl, if_pos q, if_pos q] at k
      have e4 : D 14 4 = v 0 3 := by
        rw [hi.1.2.1.1.2.1]
        exact (vn_eq (by
          obtain ⟨n, h1, h2⟩ := hv.2.2.1
          exact ⟨n, by omega, h2⟩)).symm
      rw [e4]
      rw [en] at f2 k
      exact k (ix_set (c := 0) hi (by decide) (by omega) f2 c2)
    have kb1 : x = 1 → ¬ (1 ≤ y ∧ y ≤ 8) → K (some (.int (-2))) D L := fun e q => by
      subst e
      refine kb ?_ ?_
      · unfold gSet; rw [if_neg (show ¬ (1 : Int32) = 0 by decide), if_pos rfl, if_neg q]
      · unfold qSet; rw [if_neg (show ¬ (1 : Int32) = 0 by decide), if_pos rfl, if_neg q]
    have kg1 : x = 1 → (1 ≤ y ∧ y ≤ 8) → ∀ D2, fk (am_up D 14 5 y) D2 → ic0 D2 → K (some (.int (D 14 5))) D2 L := fun e q D2 f2 c2 => by
      subst e
      obtain ⟨n, hn, en⟩ := rg_nI (n := 8) (by decide) (show 0 ≤ y ∧ y ≤ 8 from ⟨Int32.le_trans (by decide) q.1, q.2⟩)
      have k := hK D2 L (fun k hk => (f2 k (by omega) (by omega) (by omega) (by omega) (by omega) (by omega)).trans (am_up_ne (by omega)))
      unfold gSet qSet at k
      rw [if_neg (show ¬ (1 : Int32) = 0 by decide), if_pos rfl, if_neg (show ¬ (1 : Int32) = 0 by decide), if_pos rfl, if_pos q, if_pos q] at k
      have e4 : D 14 5 = v 0 4 := by
        rw [hi.1.2.1.1.2.2.1]
        exact (vn_eq (by
          obtain ⟨n, h0, h1, h2⟩ := hv.2.2.2.1
          exact ⟨n, by omega, h2⟩)).symm
      rw [e4]
      rw [en] at f2 k
      exact k (ix_set (c := 1) hi (by decide) (by omega) f2 c2)
    have kb2 : x = 2 → ¬ (0 ≤ y ∧ y ≤ 60) → K (some (.int (-2))) D L := fun e q => by
      subst e
      refine kb ?_ ?_
      · unfold gSet; rw [if_neg (show ¬ (2 : Int32) = 0 by decide), if_neg (show ¬ (2 : Int32) = 1 by decide), if_pos rfl, if_neg q]
      · unfold qSet; rw [if_neg (show ¬ (2 : Int32) = 0 by decide), if_neg (show ¬ (2 : Int32) = 1 by decide), if_pos rfl, if_neg q]
    have kg2 : x = 2 → (0 ≤ y ∧ y ≤ 60) → ∀ D2, fk (am_up D 14 6 y) D2 → ic0 D2 → K (some (.int (D 14 6))) D2 L := fun e q D2 f2 c2 => by
      subst e
      obtain ⟨n, hn, en⟩ := rg_nI (n := 60) (by decide) q
      have k := hK D2 L (fun k hk => (f2 k (by omega) (by omega) (by omega) (by omega) (by omega) (by omega)).trans (am_up_ne (by omega)))
      unfold gSet qSet at k
      rw [if_neg (show ¬ (2 : Int32) = 0 by decide), if_neg (show ¬ (2 : Int32) = 1 by decide), if_pos rfl, if_neg (show ¬ (2 : Int32) = 0 by decide), if_neg (show ¬ (2 : Int32) = 1 by decide), if_pos rfl, if_pos q, if_pos q] at k
      have e4 : D 14 6 = v 0 5 := by
        rw [hi.1.2.1.1.2.2.2.1]
        exact (vn_eq (by
          obtain ⟨n, h1, h2⟩ := hv.2.2.2.2.1
          exact ⟨n, by omega, h2⟩)).symm
      rw [e4]
      rw [en] at f2 k
      exact k (ix_set (c := 2) hi (by decide) (by omega) f2 c2)
    have kx : ¬ x = 0 → ¬ x = 1 → ¬ x = 2 → K (some (.int (-2))) D L := fun e0 e1 e2 => by
      refine kb ?_ ?_
      · unfold gSet; rw [if_neg e0, if_neg e1, if_neg e2]
      · unfold qSet; rw [if_neg e0, if_neg e1, if_neg e2]
    have kp1 : ¬ x = 0 → ∀ k3 : Option Value, am_Wp false 0 cdX_set fnX_set K 32 [some (.ref 0), some (.int x), some (.int y), k3] [] D L := by
      intro e0 k3
      refine am_Wp_bl mfX_set [] 60 _ _ _ _ _ ?_
      (repeat ((conv => whnf); (first | refine zo0 ?_ | refine zo1 ?_ | refine br_z ?_ | refine br_o ?_ | refine br_zn ?_ | refine br_on ?_ | refine nz2 ?_ | refine nz6 ?_ | refine nz32 ?_ | refine And.intro (by assumption) ?_))); (conv => whnf)
      refine ⟨fun e1 => ?_, fun e1 => ?_⟩
      rotate_left
      · have ne2 : ¬ x = 2 := fun q => by rw [e1] at q; exact absurd q (by decide)
        (repeat ((conv => whnf); (first | refine zo0 ?_ | refine zo1 ?_ | refine br_z ?_ | refine br_o ?_ | refine br_zn ?_ | refine br_on ?_ | refine nz2 ?_ | refine nz6 ?_ | refine nz32 ?_ | refine And.intro (by assumption) ?_))); (conv => whnf)
        refine ⟨fun h1 => ?_, fun h1 => ?_⟩
        · (repeat ((conv => whnf); (first | refine zo0 ?_ | refine zo1 ?_ | refine br_z ?_ | refine br_o ?_ | refine br_zn ?_ | refine br_on ?_ | refine nz2 ?_ | refine nz6 ?_ | refine nz32 ?_ | refine And.intro (by assumption) ?_))); (conv => whnf)
          refine ⟨fun _ => ?_, fun q => absurd q ne2⟩
          (repeat ((conv => whnf); (first | refine zo0 ?_ | refine zo1 ?_ | refine br_z ?_ | refine br_o ?_ | refine br_zn ?_ | refine br_on ?_ | refine nz2 ?_ | refine nz6 ?_ | refine nz32 ?_ | refine And.intro (by assumption) ?_))); (conv => whnf)
          exact kb1 e1 (rn0 h1)
        (repeat ((conv => whnf); (first | refine zo0 ?_ | refine zo1 ?_ | refine br_z ?_ | refine br_o ?_ | refine br_zn ?_ | refine br_on ?_ | refine nz2 ?_ | refine nz6 ?_ | refine nz32 ?_ | refine And.intro (by assumption) ?_))); (conv => whnf)
        refine ⟨fun h2 => ?_, fun h2 => ?_⟩
        · (repeat ((conv => whnf); (first | refine zo0 ?_ | refine zo1 ?_ | refine br_z ?_ | refine br_o ?_ | refine br_zn ?_ | refine br_on ?_ | refine nz2 ?_ | refine nz6 ?_ | refine nz32 ?_ | refine And.intro (by assumption) ?_))); (conv => whnf)
          refine ⟨fun _ => ?_, fun q => absurd q ne2⟩
          (repeat ((conv => whnf); (first | refine zo0 ?_ | refine zo1 ?_ | refine br_z ?_ | refine br_o ?_ | refine br_zn ?_ | refine br_on ?_ | refine nz2 ?_ | refine nz6 ?_ | refine nz32 ?_ | refine And.intro (by assumption) ?_))); (conv => whnf)
          exact kb1 e1 (rn1 h2)
        (repeat ((conv => whnf); (first | refine zo0 ?_ | refine zo1 ?_ | refine br_z ?_ | refine br_o ?_ | refine br_zn ?_ | refine br_on ?_ | refine nz2 ?_ | refine nz6 ?_ | refine nz32 ?_ | refine And.intro (by assumption) ?_))); (conv => whnf)
        intro D2 f2 c2
        (repeat ((conv => whnf); (first | refine zo0 ?_ | refine zo1 ?_ | refine br_z ?_ | refine br_o ?_ | refine br_zn ?_ | refine br_on ?_ | refine nz2 ?_ | refine nz6 ?_ | refine nz32 ?_ | refine And.intro (by assumption) ?_))); (conv => whnf)
        exact kg1 e1 (rq1 h1 h2) D2 f2 c2
      (repeat ((conv => whnf); (first | refine zo0 ?_ | refine zo1 ?_ | refine br_z ?_ | refine br_o ?_ | refine br_zn ?_ | refine br_on ?_ | refine nz2 ?_ | refine nz6 ?_ | refine nz32 ?_ | refine And.intro (by assumption) ?_))); (conv => whnf)
      refine ⟨fun e2 => ?_, fun e2 => ?_⟩
      · (repeat ((conv => whnf); (first | refine zo0 ?_ | refine zo1 ?_ | refine br_z ?_ | refine br_o ?_ | refine br_zn ?_ | refine br_on ?_ | refine nz2 ?_ | refine nz6 ?_ | refine nz32 ?_ | refine And.intro (by assumption) ?_))); (conv => whnf)
        exact kx e0 e1 e2
      (repeat ((conv => whnf); (first | refine zo0 ?_ | refine zo1 ?_ | refine br_z ?_ | refine br_o ?_ | refine br_zn ?_ | refine br_on ?_ | refine nz2 ?_ | refine nz6 ?_ | refine nz32 ?_ | refine And.intro (by assumption) ?_))); (conv => whnf)
      refine ⟨fun h1 => ?_, fun h1 => ?_⟩
      · (repeat ((conv => whnf); (first | refine zo0 ?_ | refine zo1 ?_ | refine br_z ?_ | refine br_o ?_ | refine br_zn ?_ | refine br_on ?_ | refine nz2 ?_ | refine nz6 ?_ | refine nz32 ?_ | refine And.intro (by assumption) ?_))); (conv => whnf)
        exact kb2 e2 (rn0 h1)
      (repeat ((conv => whnf); (first | refine zo0 ?_ | refine zo1 ?_ | refine br_z ?_ | refine br_o ?_ | refine br_zn ?_ | refine br_on ?_ | refine nz2 ?_ | refine nz6 ?_ | refine nz32 ?_ | refine And.intro (by assumption) ?_))); (conv => whnf)
      refine ⟨fun h2 => ?_, fun h2 => ?_⟩
      · (repeat ((conv => whnf); (first | refine zo0 ?_ | refine zo1 ?_ | refine br_z ?_ | refine br_o ?_ | refine br_zn ?_ | refine br_on ?_ | refine nz2 ?_ | refine nz6 ?_ | refine nz32 ?_ | refine And.intro (by assumption) ?_))); (conv => whnf)
        exact kb2 e2 (rn1 h2)
      (repeat ((conv => whnf); (first | refine zo0 ?_ | refine zo1 ?_ | refine br_z ?_ | refine br_o ?_ | refine br_zn ?_ | refine br_on ?_ | refine nz2 ?_ | refine nz6 ?_ | refine nz32 ?_ | refine And.intro (by assumption) ?_))); (conv => whnf)
      intro D2 f2 c2
      (repeat ((conv => whnf); (first | refine zo0 ?_ | refine zo1 ?_ | refine br_z ?_ | refine br_o ?_ | refine br_zn ?_ | refine br_on ?_ | refine nz2 ?_ | refine nz6 ?_ | refine nz32 ?_ | refine And.intro (by assumption) ?_))); (conv => whnf)
      exact kg2 e2 (rq1 h1 h2) D2 f2 c2
    have kp0 : x = 0 → ¬ (0 ≤ y ∧ y ≤ 2) → ∀ k3 : Option Value, am_Wp false 0 cdX_set fnX_set K 32 [some (.ref 0), some (.int x), some (.int y), k3] [] D L := by
      intro e0 q k3
      refine am_Wp_bl mfX_set [] 60 _ _ _ _ _ ?_
      (repeat ((conv => whnf); (first | refine zo0 ?_ | refine zo1 ?_ | refine br_z ?_ | refine br_o ?_ | refine br_zn ?_ | refine br_on ?_ | refine nz2 ?_ | refine nz6 ?_ | refine nz32 ?_ | refine And.intro (by assumption) ?_))); (conv => whnf)
      refine ⟨fun _ => ?_, fun q => absurd (e0.symm.trans q) (by decide)⟩
      (repeat ((conv => whnf); (first | refine zo0 ?_ | refine zo1 ?_ | refine br_z ?_ | refine br_o ?_ | refine br_zn ?_ | refine br_on ?_ | refine nz2 ?_ | refine nz6 ?_ | refine nz32 ?_ | refine And.intro (by assumption) ?_))); (conv => whnf)
      refine ⟨fun _ => ?_, fun q => absurd (e0.symm.trans q) (by decide)⟩
      (repeat ((conv => whnf); (first | refine zo0 ?_ | refine zo1 ?_ | refine br_z ?_ | refine br_o ?_ | refine br_zn ?_ | refine br_on ?_ | refine nz2 ?_ | refine nz6 ?_ | refine nz32 ?_ | refine And.intro (by assumption) ?_))); (conv => whnf)
      exact kb0 e0 q
    refine ⟨rfl, am_Wp_bl mfX_set [32] 60 _ _ _ _ _ ?_⟩
    (repeat ((conv => whnf); (first | refine zo0 ?_ | refine zo1 ?_ | refine br_z ?_ | refine br_o ?_ | refine br_zn ?_ | refine br_on ?_ | refine nz2 ?_ | refine nz6 ?_ | refine nz32 ?_ | refine And.intro (by assumption) ?_))); (conv => whnf)
    refine ⟨fun e0 => ?_, fun e0 => ?_⟩
    · (repeat ((conv => whnf); (first | refine zo0 ?_ | refine zo1 ?_ | refine br_z ?_ | refine br_o ?_ | refine br_zn ?_ | refine br_on ?_ | refine nz2 ?_ | refine nz6 ?_ | refine nz32 ?_ | refine And.intro (by assumption) ?_))); (conv => whnf)
      exact kp1 e0 _
    (repeat ((conv => whnf); (first | refine zo0 ?_ | refine zo1 ?_ | refine br_z ?_ | refine br_o ?_ | refine br_zn ?_ | refine br_on ?_ | refine nz2 ?_ | refine nz6 ?_ | refine nz32 ?_ | refine And.intro (by assumption) ?_))); (conv => whnf)
    refine ⟨fun h1 => ?_, fun h1 => ?_⟩
    · (repeat ((conv => whnf); (first | refine zo0 ?_ | refine zo1 ?_ | refine br_z ?_ | refine br_o ?_ | refine br_zn ?_ | refine br_on ?_ | refine nz2 ?_ | refine nz6 ?_ | refine nz32 ?_ | refine And.intro (by assumption) ?_))); (conv => whnf)
      exact kp0 e0 (rn0 h1) _
    (repeat ((conv => whnf); (first | refine zo0 ?_ | refine zo1 ?_ | refine br_z ?_ | refine br_o ?_ | refine br_zn ?_ | refine br_on ?_ | refine nz2 ?_ | refine nz6 ?_ | refine nz32 ?_ | refine And.intro (by assumption) ?_))); (conv => whnf)
    refine ⟨fun h2 => ?_, fun h2 => ?_⟩
    · (repeat ((conv => whnf); (first | refine zo0 ?_ | refine zo1 ?_ | refine br_z ?_ | refine br_o ?_ | refine br_zn ?_ | refine br_on ?_ | refine nz2 ?_ | refine nz6 ?_ | refine nz32 ?_ | refine And.intro (by assumption) ?_))); (conv => whnf)
      exact kp0 e0 (rn3 2 h2) _
    (repeat ((conv => whnf); (first | refine zo0 ?_ | refine zo1 ?_ | refine br_z ?_ | refine br_o ?_ | refine br_zn ?_ | refine br_on ?_ | refine nz2 ?_ | refine nz6 ?_ | refine nz32 ?_ | refine And.intro (by assumption) ?_))); (conv => whnf)
    intro D2 f2 c2
    (repeat ((conv => whnf); (first | refine zo0 ?_ | refine zo1 ?_ | refine br_z ?_ | refine br_o ?_ | refine br_zn ?_ | refine br_on ?_ | refine nz2 ?_ | refine nz6 ?_ | refine nz32 ?_ | refine And.intro (by assumption) ?_))); (conv => whnf)
    exact kg0 e0 (rq3 2 h1 h2) D2 f2 c2
  · exact absurd h id
theorem clX_set (l : Launch) : ∀ (a : Nat) (ins : Instr) (b dd : Nat), csX_set[a]? = some (ins, b, dd) → am_Call l yX_set.cls 1 ins b dd (fnX_set a) := by
  intro a ins b dd h
  match a, h with
  | 0, h => cases h; exact am_callV (T := F_10) (N := 17) (okX_forgetMornings l) wcX_forgetMornings (am_m2 (i := 170) rfl rfl) wiX_forgetMornings wsX_forgetMornings inX rfl (by decide) (by decide +kernel) (by decide) (by decide)
  | k + 1, h => simp [csX_set] at h
theorem okX_set (l : Launch) : am_Ok l yX_set prog_1_method_8_code 4 (some .int) 1 spX_set := am_ok_of (by decide +kernel) flX_ok kiX_ok klX_ok ckX_set (clX_set l) wpX_set
