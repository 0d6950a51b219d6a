def fnS_agreeWith : Nat → am_Sp := fun _ => am_no
theorem mfS_agreeWith : ∀ a, am_mono (fnS_agreeWith a) := fun _ => am_no_mono
def spS_agreeWith : am_Sp := fun as D L K => match as with
  | [.ref 11, .ref 26] => ∃ (v : vs_T) (tr : Nat → Nat), vok v ∧ isg D v ∧ (∀ t, t < 48 → tr t ≤ 11 ∧ D 26 t = nI (tr t)) ∧ ∀ r : Int32, ((vsee v tr (vn v 0 7) = true ∧ r = 1) ∨ (vsee v tr (vn v 0 7) = false ∧ r = 0)) → K (some (.int r)) D L
  | _ => False
theorem moS_agreeWith : am_mono spS_agreeWith := by
  intro as D L K K' hK h
  unfold spS_agreeWith at h ⊢
  split at h
  · obtain ⟨z0, z1, z2, z3, z4, hz⟩ := h
    exact ⟨z0, z1, z2, z3, z4, fun r q => hK _ _ _ (hz r q)⟩
  · exact h
theorem wpS_agreeWith : ∀ (as : List Value) (D : am_D) (L : am_L) (K : am_K), spS_agreeWith as D L K → am_fit 4 as = true ∧ am_Wp false 0 cdS_agreeWith fnS_agreeWith K 0 (am_lo 4 as) [] D L := by
  intro as D L K h
  unfold spS_agreeWith at h
  split at h
  · obtain ⟨v, tr, hv, hg, htr, hK⟩ := h
    obtain ⟨n, n1, n2, n3⟩ := hv.2.2.2.2.2.2.1
    have en : vn v 0 7 = n := vn_nI n2 (by omega)
    have e11 : D 11 2 = nI n := hg.1.trans n2
    rw [en] at hK
    have loop : ∀ (m i : Nat) (k3 : Option Value), i + m = n → vsee v tr i = true → am_Wp false 0 cdS_agreeWith fnS_agreeWith K 2 [some (.ref 11), some (.ref 26), some (.int (nI i)), k3] [] D L := by
      intro m
      induction m with
      | zero =>
        intro i k3 hm hs
        refine am_Wp_bl mfS_agreeWith [2] 30 _ _ _ _ _ ?_
        (repeat ((conv => whnf); (first | refine zo0 ?_ | refine zo1 ?_ | refine br_z ?_ | refine br_o ?_ | refine br_zn ?_ | refine br_on ?_ | refine nz2 ?_ | refine nz6 ?_ | refine nz32 ?_ | refine And.intro (by assumption) ?_))); (conv => whnf)
        rw [e11]
        refine ⟨fun h1 => ?_, fun h1 => absurd (nI_le (by omega) (by omega)) h1⟩
        (repeat ((conv => whnf); (first | refine zo0 ?_ | refine zo1 ?_ | refine br_z ?_ | refine br_o ?_ | refine br_zn ?_ | refine br_on ?_ | refine nz2 ?_ | refine nz6 ?_ | refine nz32 ?_ | refine And.intro (by assumption) ?_))); (conv => whnf)
        rw [show i = n by omega] at hs
        exact hK 1 (Or.inl ⟨hs, rfl⟩)
      | succ m ih =>
        intro i k3 hm hs
        have ec : (nI i).toNatClampNeg = i := nI_clamp (by omega)
        have hin : vp_in (nI i) 8 := vp_in_nI (by omega) (by decide)
        obtain ⟨⟨a, a1, a2⟩, ⟨b, b1, b2⟩⟩ := n3 i (by omega)
        have g := hg.2 i (by omega)
        have ea : D 12 i = nI a := g.1.trans a2
        have eb : D 13 i = nI b := g.2.trans b2
        have va5 : vn v 5 i = a := vn_nI a2 (by omega)
        have vb6 : vn v 6 i = b := vn_nI b2 (by omega)
        have ht := htr a (by omega)
        have eca : (nI a).toNatClampNeg = a := nI_clamp (by omega)
        have ina : vp_in (nI a) 48 := vp_in_nI (by omega) (by decide)
        have nx : vsee v tr (i + 1) = (vsee v tr i && decide (tr (vn v 5 i) = vn v 6 i)) := rfl
        rw [hs, va5, vb6, Bool.true_and] at nx
        refine am_Wp_bl mfS_agreeWith [2] 60 _ _ _ _ _ ?_
        (repeat ((conv => whnf); (first | refine zo0 ?_ | refine zo1 ?_ | refine br_z ?_ | refine br_o ?_ | refine br_zn ?_ | refine br_on ?_ | refine nz2 ?_ | refine nz6 ?_ | refine nz32 ?_ | refine And.intro (by assumption) ?_))); (conv => whnf)
        rw [e11]
        refine ⟨fun h1 => absurd h1 (nI_ge (by omega) (by omega)), fun h1 => ?_⟩
        (repeat ((conv => whnf); (first | refine zo0 ?_ | refine zo1 ?_ | refine br_z ?_ | refine br_o ?_ | refine br_zn ?_ | refine br_on ?_ | refine nz2 ?_ | refine nz6 ?_ | refine nz32 ?_ | refine And.intro (by assumption) ?_))); (conv => whnf)
        refine ⟨fun h1 => absurd h1 (nI_ge (b := 8) (by omega) (by omega)), fun h1 => ?_⟩
        (repeat ((conv => whnf); (first | refine zo0 ?_ | refine zo1 ?_ | refine br_z ?_ | refine br_o ?_ | refine br_zn ?_ | refine br_on ?_ | refine nz2 ?_ | refine nz6 ?_ | refine nz32 ?_ | refine And.intro (by assumption) ?_))); (conv => whnf)
        rw [ec, ea]
        refine ⟨fun h2 => absurd h2 (nI_pos (by omega)), fun h2 => ?_⟩
        (repeat ((conv => whnf); (first | refine zo0 ?_ | refine zo1 ?_ | refine br_z ?_ | refine br_o ?_ | refine br_zn ?_ | refine br_on ?_ | refine nz2 ?_ | refine nz6 ?_ | refine nz32 ?_ | refine And.intro (by assumption) ?_))); (conv => whnf)
        refine ⟨fun h2 => absurd h2 (nI_ge (b := 48) (by omega) (by omega)), fun h2 => ?_⟩
        (repeat ((conv => whnf); (first | refine zo0 ?_ | refine zo1 ?_ | refine br_z ?_ | refine br_o ?_ | refine br_zn ?_ | refine br_on ?_ | refine nz2 ?_ | refine nz6 ?_ | refine nz32 ?_ | refine And.intro (by assumption) ?_))); (conv => whnf)
        rw [ec, eca, ht.2, eb, nI_eq (by omega) (by omega)]
        refine ⟨fun h3 => ?_, fun h3 => ?_⟩
        · (repeat ((conv => whnf); (first | refine zo0 ?_ | refine zo1 ?_ | refine br_z ?_ | refine br_o ?_ | refine br_zn ?_ | refine br_on ?_ | refine nz2 ?_ | refine nz6 ?_ | refine nz32 ?_ | refine And.intro (by assumption) ?_))); (conv => whnf)
          rw [nI_1]
          exact ih (i + 1) _ (by omega) (by rw [nx]; exact decide_eq_true h3)
        · (repeat ((conv => whnf); (first | refine zo0 ?_ | refine zo1 ?_ | refine br_z ?_ | refine br_o ?_ | refine br_zn ?_ | refine br_on ?_ | refine nz2 ?_ | refine nz6 ?_ | refine nz32 ?_ | refine And.intro (by assumption) ?_))); (conv => whnf)
          refine hK 0 (Or.inr ⟨?_, rfl⟩)
          have := vsee_f (v := v) (tr := tr) (k := i + 1) (by rw [nx]; exact decide_eq_false h3) (n - (i + 1))
          rw [show i + 1 + (n - (i + 1)) = n by omega] at this
          exact this
    refine ⟨rfl, am_Wp_bl mfS_agreeWith [2] 20 _ _ _ _ _ ?_⟩
    (repeat ((conv => whnf); (first | refine zo0 ?_ | refine zo1 ?_ | refine br_z ?_ | refine br_o ?_ | refine br_zn ?_ | refine br_on ?_ | refine nz2 ?_ | refine nz6 ?_ | refine nz32 ?_ | refine And.intro (by assumption) ?_))); (conv => whnf)
    exact loop n 0 none (by omega) rfl
  · exact absurd h id
theorem clS_agreeWith (l : Launch) : ∀ (a : Nat) (ins : Instr) (b dd : Nat), csS_agreeWith[a]? = some (ins, b, dd) → am_Call l yS_agreeWith.cls 0 ins b dd (fnS_agreeWith a) := by
  intro a ins b dd h
  match a, h with
  | k + 0, h => simp [csS_agreeWith] at h
theorem okS_agreeWith (l : Launch) : am_Ok l yS_agreeWith prog_8_method_4_code 4 (some .boolean) 0 spS_agreeWith := am_ok_of (by decide +kernel) flS_ok kiS_ok klS_ok ckS_agreeWith (clS_agreeWith l) wpS_agreeWith
def fnX_comesOutAsSeen : Nat → am_Sp := fun a => match a with
  | 0 => spW_run
  | 1 => spS_agreeWith
  | _ => am_no
theorem mfX_comesOutAsSeen : ∀ a, am_mono (fnX_comesOutAsSeen a) := fun a => match a with
  | 0 => moW_run
  | 1 => moS_agreeWith
  | _ + 2 => am_no_mono
def spX_comesOutAsSeen : am_Sp := fun as D L K => match as with
  | [.ref 0] => ∃ (v : vs_T) (P : mw_T) (pr : Nat → Bool), vok v ∧ mw_pok P ∧ ie D v ∧ isg D v ∧ px D 18 P ∧ prx (D 18 7) pr ∧ iw D ∧ ∀ (D' : am_D) (r : Int32), fr 22 26 D D' → iw D' → (∀ t, t < 48 → D' 26 t = nI (mw_run P (vev v) pr (t + 1) 0 0)) → ((mS v P pr = true ∧ r = 1) ∨ (mS v P pr = false ∧ r = 0)) → K (some (.int r)) D' L
  | _ => False
theorem moX_comesOutAsSeen : am_mono spX_comesOutAsSeen := by
  intro as D L K K' hK h
  unfold spX_comesOutAsSeen at h ⊢
  split at h
  · obtain ⟨z0, z1, z2, z3, z4, z5, z6, z7, z8, z9, hz⟩ := h
    exact ⟨z0, z1, z2, z3, z4, z5, z6, z7, z8, z9, fun D' r q1 q2 q3 q4 => hK _ _ _ (hz D' r q1 q2 q3 q4)⟩
  · exact h
theorem wpX_comesOutAsSeen : ∀ (as : List Value) (D : am_D) (L : am_L) (K : am_K), spX_comesOutAsSeen as D L K → am_fit 1 as = true ∧ am_Wp false 0 cdX_comesOutAsSeen fnX_comesOutAsSeen K 0 (am_lo 1 as) [] D L := by
  intro as D L K h
  unfold spX_comesOutAsSeen at h
  split at h
  · obtain ⟨v, P, pr, hv, hP, he, hg, hpx, hpr, hw, hK⟩ := h
    have hE := vev_ok hv
    refine ⟨rfl, am_Wp_bl mfX_comesOutAsSeen [] 40 _ _ _ _ _ ?_⟩
    (repeat ((conv => whnf); (first | refine zo0 ?_ | refine zo1 ?_ | refine br_z ?_ | refine br_o ?_ | refine br_zn ?_ | refine br_on ?_ | refine nz2 ?_ | refine nz6 ?_ | refine nz32 ?_ | refine And.intro (by assumption) ?_))); (conv => whnf)
    refine ⟨P, vev v, pr, Or.inr rfl, hP, hE, hpx, ex_ie he hv, hpr, hw, fun D1 g f1 w1 t1 => ?_⟩
    (repeat ((conv => whnf); (first | refine zo0 ?_ | refine zo1 ?_ | refine br_z ?_ | refine br_o ?_ | refine br_zn ?_ | refine br_on ?_ | refine nz2 ?_ | refine nz6 ?_ | refine nz32 ?_ | refine And.intro (by assumption) ?_))); (conv => whnf)
    refine ⟨v, fun t => mw_run P (vev v) pr (t + 1) 0 0, hv, isg_fr hg (fun k _ _ => f1 k (by omega)), fun t ht => ⟨(mw_run_ok hP hE (t + 1)).1, t1 t ht⟩, fun r hr => ?_⟩
    (repeat ((conv => whnf); (first | refine zo0 ?_ | refine zo1 ?_ | refine br_z ?_ | refine br_o ?_ | refine br_zn ?_ | refine br_on ?_ | refine nz2 ?_ | refine nz6 ?_ | refine nz32 ?_ | refine And.intro (by assumption) ?_))); (conv => whnf)
    refine ⟨?_, hK D1 r f1 ⟨_, g, w1⟩ t1 hr⟩
    rcases hr with ⟨_, q⟩ | ⟨_, q⟩
    · exact Or.inr q
    · exact Or.inl q
  · exact absurd h id
theorem clX_comesOutAsSeen (l : Launch) : ∀ (a : Nat) (ins : Instr) (b dd : Nat), csX_comesOutAsSeen[a]? = some (ins, b, dd) → am_Call l yX_comesOutAsSeen.cls 4 ins b dd (fnX_comesOutAsSeen a) := by
  intro a ins b dd h
  match a, h with
  | 0, h => cases h; exact am_callV (T := F_9) (N := 17) (okW_run l) wcW_run (am_m3 (i := 22) rfl rfl) wiW_run wsW_run inW rfl (by decide) (by decide +kernel) (by decide) (by decide)
  | 1, h => cases h; exact am_callV (T := F_6) (N := 3) (okS_agreeWith l) wcS_agreeWith (am_m3 (i := 200) rfl rfl) wiS_agreeWith wsS_agreeWith inS rfl (by decide) (by decide +kernel) (by decide) (by decide)
  | k + 2, h => simp [csX_comesOutAsSeen] at h
theorem okX_comesOutAsSeen (l : Launch) : am_Ok l yX_comesOutAsSeen prog_1_method_54_code 1 (some .boolean) 4 spX_comesOutAsSeen := am_ok_of (by decide +kernel) flX_ok kiX_ok klX_ok ckX_comesOutAsSeen (clX_comesOutAsSeen l) wpX_comesOutAsSeen
def fnX_never : Nat → am_Sp := fun a => match a with
  | 0 => spP_take
  | 1 => spX_comesOutAsSeen
  | _ => am_no
theorem mfX_never : ∀ a, am_mono (fnX_never a) := fun a => match a with
  | 0 => moP_take
  | 1 => moX_comesOutAsSeen
  | _ + 2 => am_no_mono
def spX_never : am_Sp := fun as D L K => match as with
  | [.ref 0] => ∃ v : vs_T, vok v ∧ ix D v ∧ ∀ (D' : am_D) (L' : am_L), fc D D' → ix D' v → K (some (.int (aNever v))) D' L'
  | _ => False
theorem moX_never : am_mono spX_never := by
  intro as D L K K' hK h
  unfold spX_never at h ⊢
  split at h
  · obtain ⟨z0, z1, z2, hz⟩ := h
    exact ⟨z0, z1, z2, fun D' L' q1 q2 => hK _ _ _ (hz D' L' q1 q2)⟩
  · exact h
theorem wpX_never : ∀ (as : List Value) (D : am_D) (L : am_L) (K : am_K), spX_never as D L K → am_fit 3 as = true ∧ am_Wp false 0 cdX_never fnX_never K 0 (am_lo 3 as) [] D L := by
  intro as D L K h
  unfold spX_never at h
  split at h
  · obtain ⟨v, hv, hi, hK⟩ := h
    have hP := vpl_ok hv
    have hE := vev_ok hv
    have hib := hi.1
    obtain ⟨e0, e1⟩ := vok_ev hv
    have q3 : D 7 3 = nI (vn v 0 6) := hib.2.2.1.1.trans e0
    have eN : aNever v = mbits (fun e => mS v (vpl v) (but e)) 0 (vn v 0 6) := rfl
    rw [eN] at hK
    obtain ⟨n, en⟩ : ∃ n, vn v 0 6 = n := ⟨_, rfl⟩
    rw [en] at q3 hK e1
    have fin : ∀ D', (∀ k, k < 18 ∨ 26 < k → D' k = D k) → iw D' → K (some (.int (mbits (fun e => mS v (vpl v) (but e)) 0 n))) D' L := fun D' hf hw => hK D' L (fun k hk => hf k (by omega)) (ix_try hi (fun k hk => hf k (by omega)) hw)
    have loop : ∀ (m i : Nat) (D' : am_D), i + m = n → (∀ k, k < 18 ∨ 26 < k → D' k = D k) → px D' 18 (vpl v) →  iw D' → am_Wp false 0 cdX_never fnX_never K 15 [some (.ref 0), some (.int (mbits (fun e => mS v (vpl v) (but e)) 0 i)), some (.int (nI i))] [] D' L := by
      intro m
      induction m with
      | zero =>
        intro i D' hm hf hq hw'
        refine am_Wp_bl mfX_never [15] 30 _ _ _ _ _ ?_
        (repeat ((conv => whnf); (first | refine zo0 ?_ | refine zo1 ?_ | refine br_z ?_ | refine br_o ?_ | refine br_zn ?_ | refine br_on ?_ | refine nz2 ?_ | refine nz6 ?_ | refine nz32 ?_ | refine And.intro (by assumption) ?_))); (conv => whnf)
        rw [hf 7 (by omega), q3]
        refine ⟨fun h1 => ?_, fun h1 => absurd (nI_le (by omega) (by omega)) h1⟩
        (repeat ((conv => whnf); (first | refine zo0 ?_ | refine zo1 ?_ | refine br_z ?_ | refine br_o ?_ | refine br_zn ?_ | refine br_on ?_ | refine nz2 ?_ | refine nz6 ?_ | refine nz32 ?_ | refine And.intro (by assumption) ?_))); (conv => whnf)
        rw [show i = n by omega]
        exact fin D' hf hw'
      | succ m ih =>
        intro i D' hm hf hq hw'
        have d7 : D' 7 = D 7 := hf 7 (by omega)
        have he' : ie D' v := ie_fr hib.2.2.1 (fun k _ _ => hf k (by omega))
        have hg' : isg D' v := isg_fr hib.2.2.2.1 (fun k _ _ => hf k (by omega))
        refine am_Wp_bl mfX_never [15] 80 _ _ _ _ _ ?_
        (repeat ((conv => whnf); (first | refine zo0 ?_ | refine zo1 ?_ | refine br_z ?_ | refine br_o ?_ | refine br_zn ?_ | refine br_on ?_ | refine nz2 ?_ | refine nz6 ?_ | refine nz32 ?_ | refine And.intro (by assumption) ?_))); (conv => whnf)
        rw [hf 7 (by omega), q3]
        refine ⟨fun h1 => absurd h1 (nI_ge (by omega) (by omega)), fun h1 => ?_⟩
        (repeat ((conv => whnf); (first | refine zo0 ?_ | refine zo1 ?_ | refine br_z ?_ | refine br_o ?_ | refine br_zn ?_ | refine br_on ?_ | refine nz2 ?_ | refine nz6 ?_ | refine nz32 ?_ | refine And.intro (by assumption) ?_))); (conv => whnf)
        have px1 := pxA ((1 : Int32) <<< (nI i &&& 31)) hq
        refine ⟨v, vpl v, but i, hv, hP, ie_fr he' (fun k _ _ => am_up_ne (by omega)), isg_fr hg' (fun k _ _ => am_up_ne (by omega)), px1, by rw [ap, if_pos rfl, if_pos rfl]; exact prx_but i (by omega), iw_fr hw' (fun k _ _ => am_up_ne (by omega)), fun D2 r f2 w2 t2 hr => ?_⟩
        have px2 : px D2 18 (vpl v) := px_fr4 px1 f2 (by decide)
        have nx : ∀ b : Int32, b = mbits (fun e => mS v (vpl v) (but e)) 0 (i + 1) → am_Wp false 0 cdX_never fnX_never K 15 [some (.ref 0), some (.int (b)), some (.int (nI (i + 1)))] [] D2 L := by
          intro b hb
          rw [hb]
          refine ih (i + 1) D2 (by omega) (fun k hk => (f2 k (by omega)).trans ((am_up_ne (by omega)).trans (hf k hk))) ?_ w2
          · exact px2
        have mb : mbits (fun e => mS v (vpl v) (but e)) 0 (i + 1) = if (fun e => mS v (vpl v) (but e)) (0 + i) = true then mbits (fun e => mS v (vpl v) (but e)) 0 i ||| ((1 : Int32) <<< (nI (0 + i) &&& 31)) else mbits (fun e => mS v (vpl v) (but e)) 0 i := rfl
        rw [Nat.zero_add] at mb
        rcases hr with ⟨e1, rfl⟩ | ⟨e1, rfl⟩
        · (repeat ((conv => whnf); (first | refine zo0 ?_ | refine zo1 ?_ | refine br_z ?_ | refine br_o ?_ | refine br_zn ?_ | refine br_on ?_ | refine nz2 ?_ | refine nz6 ?_ | refine nz32 ?_ | refine And.intro (by assumption) ?_))); (conv => whnf)
          rw [nI_1]
          exact nx _ (by rw [mb, if_pos e1])
        · (repeat ((conv => whnf); (first | refine zo0 ?_ | refine zo1 ?_ | refine br_z ?_ | refine br_o ?_ | refine br_zn ?_ | refine br_on ?_ | refine nz2 ?_ | refine nz6 ?_ | refine nz32 ?_ | refine And.intro (by assumption) ?_))); (conv => whnf)
          rw [nI_1]
          exact nx _ (by rw [mb, if_neg (by skip; exact Bool.eq_false_iff.mp e1)])
    refine ⟨rfl, am_Wp_bl mfX_never [15] 40 _ _ _ _ _ ?_⟩
    (repeat ((conv => whnf); (first | refine zo0 ?_ | refine zo1 ?_ | refine br_z ?_ | refine br_o ?_ | refine br_zn ?_ | refine br_on ?_ | refine nz2 ?_ | refine nz6 ?_ | refine nz32 ?_ | refine And.intro (by assumption) ?_))); (conv => whnf)
    refine ⟨vpl v, hib.2.1.1, fun D1 f1 p1 a1 => ?_⟩
    have g1 : ∀ k, k < 18 ∨ 26 < k → D1 k = D k := fun k hk => f1 k (by omega)
    have w1 : iw D1 := iw_fr hi.2.2 (fun k _ _ => f1 k (by omega))
    have z1 : D1 18 7 = 0 := a1.trans hib.2.1.2
    (repeat ((conv => whnf); (first | refine zo0 ?_ | refine zo1 ?_ | refine br_z ?_ | refine br_o ?_ | refine br_zn ?_ | refine br_on ?_ | refine nz2 ?_ | refine nz6 ?_ | refine nz32 ?_ | refine And.intro (by assumption) ?_))); (conv => whnf)
    exact loop n 0 D1 (by omega) g1 p1 w1
  · exact absurd h id
theorem clX_never (l : Launch) : ∀ (a : Nat) (ins : Instr) (b dd : Nat), csX_never[a]? = some (ins, b, dd) → am_Call l yX_never.cls 5 ins b dd (fnX_never a) := by
  intro a ins b dd h
  match a, h with
  | 0, h => cases h; exact am_callV (T := F_4) (N := 8) (okP_take l) wcP_take (am_m3 (i := 122) rfl rfl) wiP_take wsP_take inP rfl (by decide) (by decide +kernel) (by decide) (by decide)
  | 1, h => cases h; exact am_callV (T := F_10) (N := 17) (okX_comesOutAsSeen l) wcX_comesOutAsSeen (am_m3 (i := 196) rfl rfl) wiX_comesOutAsSeen wsX_comesOutAsSeen inX rfl (by decide) (by decide +kernel) (by decide) (by decide)
  | k + 2, h => simp [csX_never] at h
theorem okX_never (l : Launch) : am_Ok l yX_never prog_1_method_24_code 3 (some .int) 5 spX_never := am_ok_of (by decide +kernel) flX_ok kiX_ok klX_ok ckX_never (clX_never l) wpX_never
def fnX_numbers : Nat → am_Sp := fun a => match a with
  | 0 => spX_isDoor
  | 1 => spP_take
  | 2 => spX_comesOutAsSeen
  | _ => am_no
theorem mfX_numbers : ∀ a, am_mono (fnX_numbers a) := fun a => match a with
  | 0 => moX_isDoor
  | 1 => moP_take
  | 2 => moX_comesOutAsSeen
  | _ + 3 => am_no_mono
def spX_numbers : am_Sp := fun as D L K => match as with
  | [.ref 0, .int x] => ∃ v : vs_T, vok v ∧ ix D v ∧ ∀ (D' : am_D) (L' : am_L), fc D D' → ix D' v → K (some (.int (qNumbers v x))) D' L'
  | _ => False
theorem moX_numbers : am_mono spX_numbers := by
  intro as D L K K' hK h
  unfold spX_numbers at h ⊢
  split at h
  · obtain ⟨z0, z1, z2, hz⟩ := h
    exact ⟨z0, z1, z2, fun D' L' q1 q2 => hK _ _ _ (hz D' L' q1 q2)⟩
  · exact h
theorem wpX_numbers : ∀ (as : List Value) (D : am_D) (L : am_L) (K : am_K), spX_numbers as D L K → am_fit 4 as = true ∧ am_Wp false 0 cdX_numbers fnX_numbers K 0 (am_lo 4 as) [] D L := by
  intro as D L K h
  unfold spX_numbers at h
  split at h
  · rename_i x
    obtain ⟨v, hv, hi, hK⟩ := h
    have kb : ¬ ((0 ≤ x ∧ x ≤ 11)) → K (some (.int (-2))) D L := fun q => by
      have k := hK D L fc_rf
      unfold qNumbers at k
      by_cases c0 : (0 ≤ x ∧ x ≤ 11)
      · exact absurd c0 q
      · rw [if_neg c0] at k
        exact k hi
    have hP := vpl_ok hv
    have hE := vev_ok hv
    have hib := hi.1
    refine ⟨rfl, am_Wp_bl mfX_numbers [25] 60 _ _ _ _ _ ?_⟩
    (repeat ((conv => whnf); (first | refine zo0 ?_ | refine zo1 ?_ | refine br_z ?_ | refine br_o ?_ | refine br_zn ?_ | refine br_on ?_ | refine nz2 ?_ | refine nz6 ?_ | refine nz32 ?_ | refine And.intro (by assumption) ?_))); (conv => whnf)
    refine ⟨fun hmx => ?_, fun hmx => ?_⟩
    rotate_left
    · (repeat ((conv => whnf); (first | refine zo0 ?_ | refine zo1 ?_ | refine br_z ?_ | refine br_o ?_ | refine br_zn ?_ | refine br_on ?_ | refine nz2 ?_ | refine nz6 ?_ | refine nz32 ?_ | refine And.intro (by assumption) ?_))); (conv => whnf)
      exact kb (fun q => hmx (isd_iff.mpr q))
    have hx := isd_iff.mp hmx
    obtain ⟨d, hd, ed⟩ := rg_nI (n := 11) (by decide) hx
    subst ed
    have cd : (nI d).toNatClampNeg = d := nI_clamp (by omega)
    have i12 : vp_in (nI d) 12 := vp_in_nI (by omega) (by decide)
    have fin : ∀ D', (∀ k, k < 18 ∨ 26 < k → D' k = D k) → iw D' → K (some (.int (mbits (fun x => mS v (pW (vpl v) d x) allp) 0 6))) D' L := fun D' hf hw => by
      have k := hK D' L (fun k hk => hf k (by omega)) (ix_try hi (fun k hk => hf k (by omega)) hw)
      unfold qNumbers at k
      rw [if_pos hx, cN_nI (by omega)] at k
      exact k
    have loop : ∀ (m i : Nat) (D' : am_D), i + m = 6 → (∀ k, k < 18 ∨ 26 < k → D' k = D k) → (∃ Q, mw_pok Q ∧ px D' 18 Q ∧ ∀ h, pW Q d h = pW (vpl v) d h) → D' 18 7 = 0 → iw D' → am_Wp false 0 cdX_numbers fnX_numbers K 25 [some (.ref 0), some (.int (nI d)), some (.int (mbits (fun x => mS v (pW (vpl v) d x) allp) 0 i)), some (.int (nI i))] [] D' L := by
      intro m
      induction m with
      | zero =>
        intro i D' hm hf hq h7 hw'
        refine am_Wp_bl mfX_numbers [25] 30 _ _ _ _ _ ?_
        (repeat ((conv => whnf); (first | refine zo0 ?_ | refine zo1 ?_ | refine br_z ?_ | refine br_o ?_ | refine br_zn ?_ | refine br_on ?_ | refine nz2 ?_ | refine nz6 ?_ | refine nz32 ?_ | refine And.intro (by assumption) ?_))); (conv => whnf)
        refine ⟨fun h1 => ?_, fun h1 => absurd (nI_lt (a := 5) (b := i) (by omega) (by omega)) h1⟩
        (repeat ((conv => whnf); (first | refine zo0 ?_ | refine zo1 ?_ | refine br_z ?_ | refine br_o ?_ | refine br_zn ?_ | refine br_on ?_ | refine nz2 ?_ | refine nz6 ?_ | refine nz32 ?_ | refine And.intro (by assumption) ?_))); (conv => whnf)
        rw [show i = 6 by omega]
        exact fin D' hf hw'
      | succ m ih =>
        intro i D' hm hf hq h7 hw'
        obtain ⟨Q, hQk, hpx, hQ⟩ := hq
        have he' : ie D' v := ie_fr hib.2.2.1 (fun k _ _ => hf k (by omega))
        have hg' : isg D' v := isg_fr hib.2.2.2.1 (fun k _ _ => hf k (by omega))
        refine am_Wp_bl mfX_numbers [25] 80 _ _ _ _ _ ?_
        (repeat ((conv => whnf); (first | refine zo0 ?_ | refine zo1 ?_ | refine br_z ?_ | refine br_o ?_ | refine br_zn ?_ | refine br_on ?_ | refine nz2 ?_ | refine nz6 ?_ | refine nz32 ?_ | refine And.intro (by assumption) ?_))); (conv => whnf)
        refine ⟨fun h1 => absurd h1 (nI_nlt (a := 5) (b := i) (by omega) (by omega)), fun h1 => ?_⟩
        (repeat ((conv => whnf); (first | refine zo0 ?_ | refine zo1 ?_ | refine br_z ?_ | refine br_o ?_ | refine br_zn ?_ | refine br_on ?_ | refine nz2 ?_ | refine nz6 ?_ | refine nz32 ?_ | refine And.intro (by assumption) ?_))); (conv => whnf)
        rw [cd]
        have px1 := pxW (d := d) i hpx
        refine ⟨v, pW Q d i, allp, hv, pW_ok hQk (by omega), ie_fr he' (fun k _ _ => am_up_ne (by omega)), isg_fr hg' (fun k _ _ => am_up_ne (by omega)), px1, by rw [am_up_ne (by decide), h7]; exact prx_0, iw_fr hw' (fun k _ _ => am_up_ne (by omega)), fun D2 r f2 w2 t2 hr => ?_⟩
        have px2 : px D2 18 (pW Q d i) := px_fr4 px1 f2 (by decide)
        have nx : ∀ b : Int32, b = mbits (fun x => mS v (pW (vpl v) d x) allp) 0 (i + 1) → am_Wp false 0 cdX_numbers fnX_numbers K 25 [some (.ref 0), some (.int (nI d)), some (.int (b)), some (.int (nI (i + 1)))] [] D2 L := by
          intro b hb
          rw [hb]
          refine ih (i + 1) D2 (by omega) (fun k hk => (f2 k (by omega)).trans ((am_up_ne (by omega)).trans (hf k hk))) ?_ ?_ w2
          · exact ⟨pW Q d i, pW_ok hQk (by omega), px2, fun h => by rw [pW_W]; exact hQ h⟩
          · rw [f2 18 (by omega)]
            rw [am_up_ne (by decide)]; exact h7
        have mb : mbits (fun x => mS v (pW (vpl v) d x) allp) 0 (i + 1) = if (fun x => mS v (pW (vpl v) d x) allp) (0 + i) = true then mbits (fun x => mS v (pW (vpl v) d x) allp) 0 i ||| ((1 : Int32) <<< (nI (0 + i) &&& 31)) else mbits (fun x => mS v (pW (vpl v) d x) allp) 0 i := rfl
        rw [Nat.zero_add] at mb
        rcases hr with ⟨e1, rfl⟩ | ⟨e1, rfl⟩
        · (repeat ((conv => whnf); (first | refine zo0 ?_ | refine zo1 ?_ | refine br_z ?_ | refine br_o ?_ | refine br_zn ?_ | refine br_on ?_ | refine nz2 ?_ | refine nz6 ?_ | refine nz32 ?_ | refine And.intro (by assumption) ?_))); (conv => whnf)
          rw [nI_1]
          exact nx _ (by rw [mb, if_pos (by rw [hQ] at e1; exact e1)])
        · (repeat ((conv => whnf); (first | refine zo0 ?_ | refine zo1 ?_ | refine br_z ?_ | refine br_o ?_ | refine br_zn ?_ | refine br_on ?_ | refine nz2 ?_ | refine nz6 ?_ | refine nz32 ?_ | refine And.intro (by assumption) ?_))); (conv => whnf)
          rw [nI_1]
          exact nx _ (by rw [mb, if_neg (by rw [hQ] at e1; exact Bool.eq_false_iff.mp e1)])
    (repeat ((conv => whnf); (first | refine zo0 ?_ | refine zo1 ?_ | refine br_z ?_ | refine br_o ?_ | refine br_zn ?_ | refine br_on ?_ | refine nz2 ?_ | refine nz6 ?_ | refine nz32 ?_ | refine And.intro (by assumption) ?_))); (conv => whnf)
    refine ⟨vpl v, hib.2.1.1, fun D1 f1 p1 a1 => ?_⟩
    have g1 : ∀ k, k < 18 ∨ 26 < k → D1 k = D k := fun k hk => f1 k (by omega)
    have w1 : iw D1 := iw_fr hi.2.2 (fun k _ _ => f1 k (by omega))
    have z1 : D1 18 7 = 0 := a1.trans hib.2.1.2
    (repeat ((conv => whnf); (first | refine zo0 ?_ | refine zo1 ?_ | refine br_z ?_ | refine br_o ?_ | refine br_zn ?_ | refine br_on ?_ | refine nz2 ?_ | refine nz6 ?_ | refine nz32 ?_ | refine And.intro (by assumption) ?_))); (conv => whnf)
    exact loop 6 0 D1 (by omega) g1 ⟨vpl v, hP, p1, fun _ => rfl⟩ z1 w1
  · exact absurd h id
theorem clX_numbers (l : Launch) : ∀ (a : Nat) (ins : Instr) (b dd : Nat), csX_numbers[a]? = some (ins, b, dd) → am_Call l yX_numbers.cls 5 ins b dd (fnX_numbers a) := by
  intro a ins b dd h
  match a, h with
  | 0, h => cases h; exact am_callS (okX_isDoor l) wcX_isDoor (am_m2 (i := 199) rfl rfl) wtX_isDoor inX (by decide +kernel) (by decide) (by decide)
  | 1, h => cases h; exact am_callV (T := F_4) (N := 8) (okP_take l) wcP_take (am_m3 (i := 122) rfl rfl) wiP_take wsP_take inP rfl (by decide) (by decide +kernel) (by decide) (by decide)
  | 2, h => cases h; exact am_callV (T := F_10) (N := 17) (okX_comesOutAsSeen l) wcX_comesOutAsSeen (am_m3 (i := 196) rfl rfl) wiX_comesOutAsSeen wsX_comesOutAsSeen inX rfl (by decide) (by decide +kernel) (by decide) (by decide)
  | k + 3, h => simp [csX_numbers] at h
theorem okX_numbers (l : Launch) : am_Ok l yX_numbers prog_1_method_25_code 4 (some .int) 5 spX_numbers := am_ok_of (by decide +kernel) flX_ok kiX_ok klX_ok ckX_numbers (clX_numbers l) wpX_numbers
def fnX_might : Nat → am_Sp := fun a => match a with
  | 0 => spP_take
  | 1 => spX_comesOutAsSeen
  | _ => am_no
theorem mfX_might : ∀ a, am_mono (fnX_might a) := fun a => match a with
  | 0 => moP_take
  | 1 => moX_comesOutAsSeen
  | _ + 2 => am_no_mono
def spX_might : am_Sp := fun as D L K => match as with
  | [.ref 0, .int x] => ∃ v : vs_T, vok v ∧ ix D v ∧ ∀ (D' : am_D) (L' : am_L), fc D D' → ix D' v → K (some (.int (qMight v x))) D' L'
  | _ => False
theorem moX_might : am_mono spX_might := by
  intro as D L K K' hK h
  unfold spX_might at h ⊢
  split at h
  · obtain ⟨z0, z1, z2, hz⟩ := h
    exact ⟨z0, z1, z2, fun D' L' q1 q2 => hK _ _ _ (hz D' L' q1 q2)⟩
  · exact h
theorem wpX_might : ∀ (as : List Value) (D : am_D) (L : am_L) (K : am_K), spX_might as D L K → am_fit 6 as = true ∧ am_Wp false 0 cdX_might fnX_might K 0 (am_lo 6 as) [] D L := by
  intro as D L K h
  unfold spX_might at h
  split at h
  · rename_i x
    obtain ⟨v, hv, hi, hK⟩ := h
    have kb : ¬ ((0 ≤ x ∧ x ≤ 1)) → K (some (.int (-2))) D L := fun q => by
      have k := hK D L fc_rf
      unfold qMight at k
      by_cases c0 : (0 ≤ x ∧ x ≤ 1)
      · exact absurd c0 q
      · rw [if_neg c0] at k
        exact k hi
    have hP := vpl_ok hv
    have hE := vev_ok hv
    have hib := hi.1
    have fin0 : x = 0 → ∀ D', (∀ k, k < 18 ∨ 26 < k → D' k = D k) → iw D' → K (some (.int (mbits (fun h => mS v (pH (vpl v) h) allp) 0 3))) D' L := fun ex D' hf hw => by
      have k := hK D' L (fun k hk => hf k (by omega)) (ix_try hi (fun k hk => hf k (by omega)) hw)
      unfold qMight at k
      subst ex
      rw [if_pos (by decide), if_pos rfl] at k
      exact k
    have fin1 : x = 1 → ∀ D', (∀ k, k < 18 ∨ 26 < k → D' k = D k) → iw D' → K (some (.int (mbits (fun h => mS v (pR (vpl v) h) allp) 1 8))) D' L := fun ex D' hf hw => by
      have k := hK D' L (fun k hk => hf k (by omega)) (ix_try hi (fun k hk => hf k (by omega)) hw)
      unfold qMight at k
      subst ex
      rw [if_pos (by decide), if_neg (by decide)] at k
      exact k
    refine ⟨rfl, am_Wp_bl mfX_might [50] 80 _ _ _ _ _ ?_⟩
    (repeat ((conv => whnf); (first | refine zo0 ?_ | refine zo1 ?_ | refine br_z ?_ | refine br_o ?_ | refine br_zn ?_ | refine br_on ?_ | refine nz2 ?_ | refine nz6 ?_ | refine nz32 ?_ | refine And.intro (by assumption) ?_))); (conv => whnf)
    refine ⟨fun h1 => ?_, fun h1 => ?_⟩
    · (repeat ((conv => whnf); (first | refine zo0 ?_ | refine zo1 ?_ | refine br_z ?_ | refine br_o ?_ | refine br_zn ?_ | refine br_on ?_ | refine nz2 ?_ | refine nz6 ?_ | refine nz32 ?_ | refine And.intro (by assumption) ?_))); (conv => whnf)
      exact kb (rn0 h1)
    (repeat ((conv => whnf); (first | refine zo0 ?_ | refine zo1 ?_ | refine br_z ?_ | refine br_o ?_ | refine br_zn ?_ | refine br_on ?_ | refine nz2 ?_ | refine nz6 ?_ | refine nz32 ?_ | refine And.intro (by assumption) ?_))); (conv => whnf)
    refine ⟨fun h2 => ?_, fun h2 => ?_⟩
    rotate_left
    · (repeat ((conv => whnf); (first | refine zo0 ?_ | refine zo1 ?_ | refine br_z ?_ | refine br_o ?_ | refine br_zn ?_ | refine br_on ?_ | refine nz2 ?_ | refine nz6 ?_ | refine nz32 ?_ | refine And.intro (by assumption) ?_))); (conv => whnf)
      exact kb (rn2 h2)
    obtain ⟨c, hc, ec⟩ := rg_nI (n := 1) (by decide) (show 0 ≤ x ∧ x ≤ 1 from ⟨Int32.not_lt.mp h1, h2⟩)
    rcases (show c = 0 ∨ c = 1 by omega) with rfl | rfl
    · have ex : x = 0 := ec.trans (by decide +kernel)
      subst ex
      have fin0 := fin0 rfl
      have loop : ∀ (m i : Nat) (D' : am_D), i + m = 3 → (∀ k, k < 18 ∨ 26 < k → D' k = D k) → (∃ Q, mw_pok Q ∧ px D' 18 Q ∧ ∀ h, pH Q h = pH (vpl v) h) → D' 18 7 = 0 → iw D' → am_Wp false 0 cdX_might fnX_might K 50 [some (.ref 0), some (.int 0), some (.int (mbits (fun h => mS v (pH (vpl v) h) allp) 0 i)), some (.int 0), some (.int 2), some (.int (nI i))] [] D' L := by
        intro m
        induction m with
        | zero =>
          intro i D' hm hf hq h7 hw'
          refine am_Wp_bl mfX_might [50] 30 _ _ _ _ _ ?_
          (repeat ((conv => whnf); (first | refine zo0 ?_ | refine zo1 ?_ | refine br_z ?_ | refine br_o ?_ | refine br_zn ?_ | refine br_on ?_ | refine nz2 ?_ | refine nz6 ?_ | refine nz32 ?_ | refine And.intro (by assumption) ?_))); (conv => whnf)
          refine ⟨fun h1 => ?_, fun h1 => absurd (nI_lt (a := 2) (b := i) (by omega) (by omega)) h1⟩
          (repeat ((conv => whnf); (first | refine zo0 ?_ | refine zo1 ?_ | refine br_z ?_ | refine br_o ?_ | refine br_zn ?_ | refine br_on ?_ | refine nz2 ?_ | refine nz6 ?_ | refine nz32 ?_ | refine And.intro (by assumption) ?_))); (conv => whnf)
          rw [show i = 3 by omega]
          exact fin0 D' hf hw'
        | succ m ih =>
          intro i D' hm hf hq h7 hw'
          obtain ⟨Q, hQk, hpx, hQ⟩ := hq
          have he' : ie D' v := ie_fr hib.2.2.1 (fun k _ _ => hf k (by omega))
          have hg' : isg D' v := isg_fr hib.2.2.2.1 (fun k _ _ => hf k (by omega))
          refine am_Wp_bl mfX_might [50] 80 _ _ _ _ _ ?_
          (repeat ((conv => whnf); (first | refine zo0 ?_ | refine zo1 ?_ | refine br_z ?_ | refine br_o ?_ | refine br_zn ?_ | refine br_on ?_ | refine nz2 ?_ | refine nz6 ?_ | refine nz32 ?_ | refine And.intro (by assumption) ?_))); (conv => whnf)
          refine ⟨fun h1 => absurd h1 (nI_nlt (a := 2) (b := i) (by omega) (by omega)), fun h1 => ?_⟩
          (repeat ((conv => whnf); (first | refine zo0 ?_ | refine zo1 ?_ | refine br_z ?_ | refine br_o ?_ | refine br_zn ?_ | refine br_on ?_ | refine nz2 ?_ | refine nz6 ?_ | refine nz32 ?_ | refine And.intro (by assumption) ?_))); (conv => whnf)
          have px1 := pxH i hpx
          refine ⟨v, pH Q i, allp, hv, pH_ok hQk (by omega), ie_fr he' (fun k _ _ => am_up_ne (by omega)), isg_fr hg' (fun k _ _ => am_up_ne (by omega)), px1, by rw [ap, if_pos rfl, if_neg (by decide), h7]; exact prx_0, iw_fr hw' (fun k _ _ => am_up_ne (by omega)), fun D2 r f2 w2 t2 hr => ?_⟩
          have px2 : px D2 18 (pH Q i) := px_fr4 px1 f2 (by decide)
          have nx : ∀ b : Int32, b = mbits (fun h => mS v (pH (vpl v) h) allp) 0 (i + 1) → am_Wp false 0 cdX_might fnX_might K 50 [some (.ref 0), some (.int 0), some (.int (b)), some (.int 0), some (.int 2), some (.int (nI (i + 1)))] [] D2 L := by
            intro b hb
            rw [hb]
            refine ih (i + 1) D2 (by omega) (fun k hk => (f2 k (by omega)).trans ((am_up_ne (by omega)).trans (hf k hk))) ?_ ?_ w2
            · exact ⟨pH Q i, pH_ok hQk (by omega), px2, fun h => by rw [pH_H]; exact hQ h⟩
            · rw [f2 18 (by omega)]
              rw [ap, if_pos rfl, if_neg (by decide)]; exact h7
          have mb : mbits (fun h => mS v (pH (vpl v) h) allp) 0 (i + 1) = if (fun h => mS v (pH (vpl v) h) allp) (0 + i) = true then mbits (fun h => mS v (pH (vpl v) h) allp) 0 i ||| ((1 : Int32) <<< (nI (0 + i) &&& 31)) else mbits (fun h => mS v (pH (vpl v) h) allp) 0 i := rfl
          rw [Nat.zero_add] at mb
          rcases hr with ⟨e1, rfl⟩ | ⟨e1, rfl⟩
          · (repeat ((conv => whnf); (first | refine zo0 ?_ | refine zo1 ?_ | refine br_z ?_ | refine br_o ?_ | refine br_zn ?_ | refine br_on ?_ | refine nz2 ?_ | refine nz6 ?_ | refine nz32 ?_ | refine And.intro (by assumption) ?_))); (conv => whnf)
            rw [nI_1]
            exact nx _ (by rw [mb, if_pos (by rw [hQ] at e1; exact e1)])
          · (repeat ((conv => whnf); (first | refine zo0 ?_ | refine zo1 ?_ | refine br_z ?_ | refine br_o ?_ | refine br_zn ?_ | refine br_on ?_ | refine nz2 ?_ | refine nz6 ?_ | refine nz32 ?_ | refine And.intro (by assumption) ?_))); (conv => whnf)
            rw [nI_1]
            exact nx _ (by rw [mb, if_neg (by rw [hQ] at e1; exact Bool.eq_false_iff.mp e1)])
      (repeat ((conv => whnf); (first | refine zo0 ?_ | refine zo1 ?_ | refine br_z ?_ | refine br_o ?_ | refine br_zn ?_ | refine br_on ?_ | refine nz2 ?_ | refine nz6 ?_ | refine nz32 ?_ | refine And.intro (by assumption) ?_))); (conv => whnf)
      refine ⟨vpl v, hib.2.1.1, fun D1 f1 p1 a1 => ?_⟩
      have g1 : ∀ k, k < 18 ∨ 26 < k → D1 k = D k := fun k hk => f1 k (by omega)
      have w1 : iw D1 := iw_fr hi.2.2 (fun k _ _ => f1 k (by omega))
      have z1 : D1 18 7 = 0 := a1.trans hib.2.1.2
      (repeat ((conv => whnf); (first | refine zo0 ?_ | refine zo1 ?_ | refine br_z ?_ | refine br_o ?_ | refine br_zn ?_ | refine br_on ?_ | refine nz2 ?_ | refine nz6 ?_ | refine nz32 ?_ | refine And.intro (by assumption) ?_))); (conv => whnf)
      exact loop 3 0 D1 (by omega) g1 ⟨vpl v, hP, p1, fun _ => rfl⟩ z1 w1
    · have ex : x = 1 := ec.trans (by decide +kernel)
      subst ex
      have fin1 := fin1 rfl
      have loop : ∀ (m i : Nat) (D' : am_D), i + m = 8 → (∀ k, k < 18 ∨ 26 < k → D' k = D k) → (∃ Q, mw_pok Q ∧ px D' 18 Q ∧ ∀ h, pR Q h = pR (vpl v) h) → D' 18 7 = 0 → iw D' → am_Wp false 0 cdX_might fnX_might K 50 [some (.ref 0), some (.int 1), some (.int (mbits (fun h => mS v (pR (vpl v) h) allp) 1 i)), some (.int 1), some (.int 8), some (.int (nI (1 + i)))] [] D' L := by
        intro m
        induction m with
        | zero =>
          intro i D' hm hf hq h7 hw'
          refine am_Wp_bl mfX_might [50] 30 _ _ _ _ _ ?_
          (repeat ((conv => whnf); (first | refine zo0 ?_ | refine zo1 ?_ | refine br_z ?_ | refine br_o ?_ | refine br_zn ?_ | refine br_on ?_ | refine nz2 ?_ | refine nz6 ?_ | refine nz32 ?_ | refine And.intro (by assumption) ?_))); (conv => whnf)
          refine ⟨fun h1 => ?_, fun h1 => absurd (nI_lt (a := 8) (b := (1 + i)) (by omega) (by omega)) h1⟩
          (repeat ((conv => whnf); (first | refine zo0 ?_ | refine zo1 ?_ | refine br_z ?_ | refine br_o ?_ | refine br_zn ?_ | refine br_on ?_ | refine nz2 ?_ | refine nz6 ?_ | refine nz32 ?_ | refine And.intro (by assumption) ?_))); (conv => whnf)
          rw [show i = 8 by omega]
          exact fin1 D' hf hw'
        | succ m ih =>
          intro i D' hm hf hq h7 hw'
          obtain ⟨Q, hQk, hpx, hQ⟩ := hq
          have he' : ie D' v := ie_fr hib.2.2.1 (fun k _ _ => hf k (by omega))
          have hg' : isg D' v := isg_fr hib.2.2.2.1 (fun k _ _ => hf k (by omega))
          refine am_Wp_bl mfX_might [50] 80 _ _ _ _ _ ?_
          (repeat ((conv => whnf); (first | refine zo0 ?_ | refine zo1 ?_ | refine br_z ?_ | refine br_o ?_ | refine br_zn ?_ | refine br_on ?_ | refine nz2 ?_ | refine nz6 ?_ | refine nz32 ?_ | refine And.intro (by assumption) ?_))); (conv => whnf)
          refine ⟨fun h1 => absurd h1 (nI_nlt (a := 8) (b := (1 + i)) (by omega) (by omega)), fun h1 => ?_⟩
          (repeat ((conv => whnf); (first | refine zo0 ?_ | refine zo1 ?_ | refine br_z ?_ | refine br_o ?_ | refine br_zn ?_ | refine br_on ?_ | refine nz2 ?_ | refine nz6 ?_ | refine nz32 ?_ | refine And.intro (by assumption) ?_))); (conv => whnf)
          have px1 := pxR (1 + i) hpx
          refine ⟨v, pR Q (1 + i), allp, hv, pR_ok hQk (by omega) (by omega), ie_fr he' (fun k _ _ => am_up_ne (by omega)), isg_fr hg' (fun k _ _ => am_up_ne (by omega)), px1, by rw [ap, if_pos rfl, if_neg (by decide), h7]; exact prx_0, iw_fr hw' (fun k _ _ => am_up_ne (by omega)), fun D2 r f2 w2 t2 hr => ?_⟩
          have px2 : px D2 18 (pR Q (1 + i)) := px_fr4 px1 f2 (by decide)
          have nx : ∀ b : Int32, b = mbits (fun h => mS v (pR (vpl v) h) allp) 1 (i + 1) → am_Wp false 0 cdX_might fnX_might K 50 [some (.ref 0), some (.int 1), some (.int (b)), some (.int 1), some (.int 8), some (.int (nI (1 + (i + 1))))] [] D2 L := by
            intro b hb
            rw [hb]
            refine ih (i + 1) D2 (by omega) (fun k hk => (f2 k (by omega)).trans ((am_up_ne (by omega)).trans (hf k hk))) ?_ ?_ w2
            · exact ⟨pR Q (1 + i), pR_ok hQk (by omega) (by omega), px2, fun h => by rw [pR_R]; exact hQ h⟩
            · rw [f2 18 (by omega)]
              rw [ap, if_pos rfl, if_neg (by decide)]; exact h7
          have mb : mbits (fun h => mS v (pR (vpl v) h) allp) 1 (i + 1) = if (fun h => mS v (pR (vpl v) h) allp) (1 + i) = true then mbits (fun h => mS v (pR (vpl v) h) allp) 1 i ||| ((1 : Int32) <<< (nI (1 + i) &&& 31)) else mbits (fun h => mS v (pR (vpl v) h) allp) 1 i := rfl
          skip
          rcases hr with ⟨e1, rfl⟩ | ⟨e1, rfl⟩
          · (repeat ((conv => whnf); (first | refine zo0 ?_ | refine zo1 ?_ | refine br_z ?_ | refine br_o ?_ | refine br_zn ?_ | refine br_on ?_ | refine nz2 ?_ | refine nz6 ?_ | refine nz32 ?_ | refine And.intro (by assumption) ?_))); (conv => whnf)
            rw [nI_1, Nat.add_assoc]
            exact nx _ (by rw [mb, if_pos (by rw [hQ] at e1; exact e1)])
          · (repeat ((conv => whnf); (first | refine zo0 ?_ | refine zo1 ?_ | refine br_z ?_ | refine br_o ?_ | refine br_zn ?_ | refine br_on ?_ | refine nz2 ?_ | refine nz6 ?_ | refine nz32 ?_ | refine And.intro (by assumption) ?_))); (conv => whnf)
            rw [nI_1, Nat.add_assoc]
            exact nx _ (by rw [mb, if_neg (by rw [hQ] at e1; exact Bool.eq_false_iff.mp e1)])
      (repeat ((conv => whnf); (first | refine zo0 ?_ | refine zo1 ?_ | refine br_z ?_ | refine br_o ?_ | refine br_zn ?_ | refine br_on ?_ | refine nz2 ?_ | refine nz6 ?_ | refine nz32 ?_ | refine And.intro (by assumption) ?_))); (conv => whnf)
      refine ⟨vpl v, hib.2.1.1, fun D1 f1 p1 a1 => ?_⟩
      have g1 : ∀ k, k < 18 ∨ 26 < k → D1 k = D k := fun k hk => f1 k (by omega)
      have w1 : iw D1 := iw_fr hi.2.2 (fun k _ _ => f1 k (by omega))
      have z1 : D1 18 7 = 0 := a1.trans hib.2.1.2
      (repeat ((conv => whnf); (first | refine zo0 ?_ | refine zo1 ?_ | refine br_z ?_ | refine br_o ?_ | refine br_zn ?_ | refine br_on ?_ | refine nz2 ?_ | refine nz6 ?_ | refine nz32 ?_ | refine And.intro (by assumption) ?_))); (conv => whnf)
      exact loop 8 0 D1 (by omega) g1 ⟨vpl v, hP, p1, fun _ => rfl⟩ z1 w1
  · exact absurd h id
theorem clX_might (l : Launch) : ∀ (a : Nat) (ins : Instr) (b dd : Nat), csX_might[a]? = some (ins, b, dd) → am_Call l yX_might.cls 5 ins b dd (fnX_might a) := by
  intro a ins b dd h
  match a, h with
  | 0, h => cases h; exact am_callV (T := F_4) (N := 8) (okP_take l) wcP_take (am_m3 (i := 122) rfl rfl) wiP_take wsP_take inP rfl (by decide) (by decide +kernel) (by decide) (by decide)
  | 1, h => cases h; exact am_callV (T := F_10) (N := 17) (okX_comesOutAsSeen l) wcX_comesOutAsSeen (am_m3 (i := 196) rfl rfl) wiX_comesOutAsSeen wsX_comesOutAsSeen inX rfl (by decide) (by decide +kernel) (by decide) (by decide)
  | k + 2, h => simp [csX_might] at h
theorem okX_might (l : Launch) : am_Ok l yX_might prog_1_method_26_code 6 (some .int) 5 spX_might := am_ok_of (by decide +kernel) flX_ok kiX_ok klX_ok ckX_might (clX_might l) wpX_might
