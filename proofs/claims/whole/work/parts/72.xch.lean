def fnH_weight : Nat → am_Sp := fun _ => am_no
theorem mfH_weight : ∀ a, am_mono (fnH_weight a) := fun _ => am_no_mono
def spH_weight : am_Sp := fun as D L K => match as with
  | [.int x, .int y, .int z] => ∃ c p n : Nat, x = nI c ∧ c ≤ 16 ∧ y = nI p ∧ p ≤ 8 ∧ z = nI n ∧ n ≤ 8 ∧ K (some (.long (lN (hwt c p n)))) D L
  | _ => False
theorem moH_weight : am_mono spH_weight := by
  intro as D L K K' hK h
  unfold spH_weight at h ⊢
  split at h
  · obtain ⟨z0, z1, z2, z3, z4, z5, z6, z7, z8, hz⟩ := h
    exact ⟨z0, z1, z2, z3, z4, z5, z6, z7, z8, hK _ _ _ hz⟩
  · exact h
theorem wpH_weight : ∀ (as : List Value) (D : am_D) (L : am_L) (K : am_K), spH_weight as D L K → am_fit 6 as = true ∧ am_Wp false 0 cdH_weight fnH_weight K 0 (am_lo 6 as) [] D L := by
  intro as D L K h
  unfold spH_weight at h
  split at h
  · obtain ⟨c, p, n, rfl, hc, rfl, hp, rfl, hn, hK⟩ := h
    have loop : ∀ (m i : Nat), i + m = n → am_Wp false 0 cdH_weight fnH_weight K 5 [some (.int (nI c)), some (.int (nI p)), some (.int (nI n)), some (.long (lN (hwt c p i))), none, some (.int (nI i))] [] D L := by
      intro m
      induction m with
      | zero =>
        intro i hm
        refine am_Wp_bl mfH_weight [5] 30 _ _ _ _ _ ?_
        (repeat ((conv => whnf); (first | refine zo0 ?_ | refine zo1 ?_ | refine br_z ?_ | refine br_o ?_ | refine br_zn ?_ | refine br_on ?_ | refine nz2 ?_ | refine nz6 ?_ | refine nz32 ?_ | refine And.intro (by assumption) ?_))); (conv => whnf)
        refine ⟨fun h1 => ?_, fun h1 => absurd (nI_le (by omega) (by omega)) h1⟩
        (repeat ((conv => whnf); (first | refine zo0 ?_ | refine zo1 ?_ | refine br_z ?_ | refine br_o ?_ | refine br_zn ?_ | refine br_on ?_ | refine nz2 ?_ | refine nz6 ?_ | refine nz32 ?_ | refine And.intro (by assumption) ?_))); (conv => whnf)
        rw [show i = n by omega]
        exact hK
      | succ m ih =>
        intro i hm
        have nx := ih (i + 1) (by omega)
        refine am_Wp_bl mfH_weight [5] 60 _ _ _ _ _ ?_
        (repeat ((conv => whnf); (first | refine zo0 ?_ | refine zo1 ?_ | refine br_z ?_ | refine br_o ?_ | refine br_zn ?_ | refine br_on ?_ | refine nz2 ?_ | refine nz6 ?_ | refine nz32 ?_ | refine And.intro (by assumption) ?_))); (conv => whnf)
        refine ⟨fun h1 => absurd h1 (nI_ge (by omega) (by omega)), fun h1 => ?_⟩
        (repeat ((conv => whnf); (first | refine zo0 ?_ | refine zo1 ?_ | refine br_z ?_ | refine br_o ?_ | refine br_zn ?_ | refine br_on ?_ | refine nz2 ?_ | refine nz6 ?_ | refine nz32 ?_ | refine And.intro (by assumption) ?_))); (conv => whnf)
        refine ⟨fun h1 => absurd h1 (nI_ge (b := 8) (by omega) (by omega)), fun h1 => ?_⟩
        (repeat ((conv => whnf); (first | refine zo0 ?_ | refine zo1 ?_ | refine br_z ?_ | refine br_o ?_ | refine br_zn ?_ | refine br_on ?_ | refine nz2 ?_ | refine nz6 ?_ | refine nz32 ?_ | refine And.intro (by assumption) ?_))); (conv => whnf)
        rw [nI_leI (by omega) (by omega)]
        refine ⟨fun h2 => ?_, fun h2 => ?_⟩
        · (repeat ((conv => whnf); (first | refine zo0 ?_ | refine zo1 ?_ | refine br_z ?_ | refine br_o ?_ | refine br_zn ?_ | refine br_on ?_ | refine nz2 ?_ | refine nz6 ?_ | refine nz32 ?_ | refine And.intro (by assumption) ?_))); (conv => whnf)
          rw [show (16 : Int32) - nI c = nI (16 - c) by rw [show (16 : Int32) = nI 16 by decide +kernel]; exact pk_sub hc, nI_l (by omega), lN_mul, nI_1]
          rw [hwt, if_neg (by omega)] at nx
          exact nx
        · (repeat ((conv => whnf); (first | refine zo0 ?_ | refine zo1 ?_ | refine br_z ?_ | refine br_o ?_ | refine br_zn ?_ | refine br_on ?_ | refine nz2 ?_ | refine nz6 ?_ | refine nz32 ?_ | refine And.intro (by assumption) ?_))); (conv => whnf)
          rw [nI_l (by omega), lN_mul, nI_1]
          rw [hwt, if_pos (by omega)] at nx
          exact nx
    refine ⟨rfl, am_Wp_bl mfH_weight [5] 20 _ _ _ _ _ ?_⟩
    (repeat ((conv => whnf); (first | refine zo0 ?_ | refine zo1 ?_ | refine br_z ?_ | refine br_o ?_ | refine br_zn ?_ | refine br_on ?_ | refine nz2 ?_ | refine nz6 ?_ | refine nz32 ?_ | refine And.intro (by assumption) ?_))); (conv => whnf)
    exact loop n 0 (by omega)
  · exact absurd h id
theorem clH_weight (l : Launch) : ∀ (a : Nat) (ins : Instr) (b dd : Nat), csH_weight[a]? = some (ins, b, dd) → am_Call l yH_weight.cls 0 ins b dd (fnH_weight a) := by
  intro a ins b dd h
  match a, h with
  | k + 0, h => simp [csH_weight] at h
theorem okH_weight (l : Launch) : am_Ok l yH_weight prog_2_method_3_code 6 (some .long) 0 spH_weight := am_ok_of (by decide +kernel) flH_ok kiH_ok klH_ok ckH_weight (clH_weight l) wpH_weight
def fnH_weigh : Nat → am_Sp := fun a => match a with
  | 0 => spH_weight
  | 1 => spJ_bitCount
  | _ => am_no
theorem mfH_weigh : ∀ a, am_mono (fnH_weigh a) := fun a => match a with
  | 0 => moH_weight
  | 1 => moJ_bitCount
  | _ + 2 => am_no_mono
def spH_weigh : am_Sp := fun as D L K => match as with
  | [.ref 36, .int x, .int y, .int z] => ∃ (c d n : Nat) (lk : Nat → Int32), x = nI c ∧ c ≤ 16 ∧ y = nI d ∧ d < 12 ∧ z = nI n ∧ n ≤ 8 ∧ (∀ S, S < 2 ^ n → D 37 S = lk S) ∧ ∀ L', K (some (.long (lN (sg (fun S => if (lk S >>> (nI d &&& 31)) &&& 1 = 0 then hwt c (mw_pc 12 S) n else 0) (2 ^ n))))) D L'
  | _ => False
theorem moH_weigh : am_mono spH_weigh := by
  intro as D L K K' hK h
  unfold spH_weigh at h ⊢
  split at h
  · obtain ⟨z0, z1, z2, z3, z4, z5, z6, z7, z8, z9, z10, hz⟩ := h
    exact ⟨z0, z1, z2, z3, z4, z5, z6, z7, z8, z9, z10, fun L' => hK _ _ _ (hz L')⟩
  · exact h
theorem wpH_weigh : ∀ (as : List Value) (D : am_D) (L : am_L) (K : am_K), spH_weigh as D L K → am_fit 7 as = true ∧ am_Wp false 0 cdH_weigh fnH_weigh K 0 (am_lo 7 as) [] D L := by
  intro as D L K h
  unfold spH_weigh at h
  split at h
  · obtain ⟨c, d, n, lk, rfl, hc, rfl, hd, rfl, hn, hlk, hK⟩ := h
    have p2 := ch_p2 n (by omega)
    have two : ∀ (m S : Nat) (L' : am_L), S + m = 2 ^ n → (∀ j, j ≤ n → L' j = lN (hwt c j n)) → am_Wp false 0 cdH_weigh fnH_weigh K 42 [some (.ref 36), some (.int (nI c)), some (.int (nI d)), some (.int (nI n)), some (.long (lN (sg (fun S => if (lk S >>> (nI d &&& 31)) &&& 1 = 0 then hwt c (mw_pc 12 S) n else 0) S))), none, some (.int (nI S))] [] D L' := by
      intro m
      induction m with
      | zero =>
        intro S L' hm hl
        refine am_Wp_bl mfH_weigh [42] 30 _ _ _ _ _ ?_
        (repeat ((conv => whnf); (first | refine zo0 ?_ | refine zo1 ?_ | refine br_z ?_ | refine br_o ?_ | refine br_zn ?_ | refine br_on ?_ | refine nz2 ?_ | refine nz6 ?_ | refine nz32 ?_ | refine And.intro (by assumption) ?_))); (conv => whnf)
        refine ⟨fun h1 => ?_, fun h1 => ?_⟩
        · (repeat ((conv => whnf); (first | refine zo0 ?_ | refine zo1 ?_ | refine br_z ?_ | refine br_o ?_ | refine br_zn ?_ | refine br_on ?_ | refine nz2 ?_ | refine nz6 ?_ | refine nz32 ?_ | refine And.intro (by assumption) ?_))); (conv => whnf)
          rw [show S = 2 ^ n by omega]
          exact hK L'
        · (repeat ((conv => whnf); (first | refine zo0 ?_ | refine zo1 ?_ | refine br_z ?_ | refine br_o ?_ | refine br_zn ?_ | refine br_on ?_ | refine nz2 ?_ | refine nz6 ?_ | refine nz32 ?_ | refine And.intro (by assumption) ?_))); (conv => whnf)
          rw [ch_shl n (by omega)]
          refine ⟨fun h1 => ?_, fun h1 => absurd (nI_le (by omega) (by omega)) h1⟩
          (repeat ((conv => whnf); (first | refine zo0 ?_ | refine zo1 ?_ | refine br_z ?_ | refine br_o ?_ | refine br_zn ?_ | refine br_on ?_ | refine nz2 ?_ | refine nz6 ?_ | refine nz32 ?_ | refine And.intro (by assumption) ?_))); (conv => whnf)
          rw [show S = 2 ^ n by omega]
          exact hK L'
      | succ m ih =>
        intro S L' hm hl
        have nx := ih (S + 1) L' (by omega) hl
        have ec : (nI S).toNatClampNeg = S := nI_clamp (by omega)
        have hin : vp_in (nI S) 256 := vp_in_nI (by omega) (by decide)
        have pcl : mw_pc 12 S ≤ n := by
          have e := pc_12 S n (by omega) (12 - n)
          rw [show n + (12 - n) = 12 by omega] at e
          rw [e]
          exact mw_pc_le S n
        have hb : bcnt (nI S) = nI (mw_pc 12 S) := bc_all S (by omega)
        have inb : vp_in (bcnt (nI S)) 9 := by rw [hb]; exact vp_in_nI (by omega) (by decide)
        have cb : (bcnt (nI S)).toNatClampNeg = mw_pc 12 S := by rw [hb]; exact nI_clamp (by omega)
        refine am_Wp_bl mfH_weigh [42] 60 _ _ _ _ _ ?_
        (repeat ((conv => whnf); (first | refine zo0 ?_ | refine zo1 ?_ | refine br_z ?_ | refine br_o ?_ | refine br_zn ?_ | refine br_on ?_ | refine nz2 ?_ | refine nz6 ?_ | refine nz32 ?_ | refine And.intro (by assumption) ?_))); (conv => whnf)
        refine ⟨fun h1 => absurd h1 (nI_ge (b := 256) (by omega) (by omega)), fun h1 => ?_⟩
        (repeat ((conv => whnf); (first | refine zo0 ?_ | refine zo1 ?_ | refine br_z ?_ | refine br_o ?_ | refine br_zn ?_ | refine br_on ?_ | refine nz2 ?_ | refine nz6 ?_ | refine nz32 ?_ | refine And.intro (by assumption) ?_))); (conv => whnf)
        rw [ch_shl n (by omega)]
        refine ⟨fun h1 => absurd h1 (nI_ge (by omega) (by omega)), fun h1 => ?_⟩
        (repeat ((conv => whnf); (first | refine zo0 ?_ | refine zo1 ?_ | refine br_z ?_ | refine br_o ?_ | refine br_zn ?_ | refine br_on ?_ | refine nz2 ?_ | refine nz6 ?_ | refine nz32 ?_ | refine And.intro (by assumption) ?_))); (conv => whnf)
        rw [ec, hlk S (by omega)]
        refine ⟨fun h2 => ?_, fun h2 => ?_⟩
        · (repeat ((conv => whnf); (first | refine zo0 ?_ | refine zo1 ?_ | refine br_z ?_ | refine br_o ?_ | refine br_zn ?_ | refine br_on ?_ | refine nz2 ?_ | refine nz6 ?_ | refine nz32 ?_ | refine And.intro (by assumption) ?_))); (conv => whnf)
          rw [nI_1]
          rw [sg, if_neg h2, Nat.add_zero] at nx
          exact nx
        · (repeat ((conv => whnf); (first | refine zo0 ?_ | refine zo1 ?_ | refine br_z ?_ | refine br_o ?_ | refine br_zn ?_ | refine br_on ?_ | refine nz2 ?_ | refine nz6 ?_ | refine nz32 ?_ | refine And.intro (by assumption) ?_))); (conv => whnf)
          rw [cb, hl _ pcl, lN_add, nI_1]
          rw [sg, if_pos h2] at nx
          exact nx
    have one : ∀ (m k : Nat) (L' : am_L) (k5 k6 : Option Value), k + m = n + 1 → (∀ j, j < k → L' j = lN (hwt c j n)) → am_Wp false 0 cdH_weigh fnH_weigh K 3 [some (.ref 36), some (.int (nI c)), some (.int (nI d)), some (.int (nI n)), some (.int (nI k)), k5, k6] [] D L' := by
      intro m
      induction m with
      | zero =>
        intro k L' k5 k6 hm hl
        refine am_Wp_bl mfH_weigh [3, 42] 30 _ _ _ _ _ ?_
        (repeat ((conv => whnf); (first | refine zo0 ?_ | refine zo1 ?_ | refine br_z ?_ | refine br_o ?_ | refine br_zn ?_ | refine br_on ?_ | refine nz2 ?_ | refine nz6 ?_ | refine nz32 ?_ | refine And.intro (by assumption) ?_))); (conv => whnf)
        refine ⟨fun h1 => ?_, fun h1 => absurd (nI_lt (by omega) (by omega)) h1⟩
        (repeat ((conv => whnf); (first | refine zo0 ?_ | refine zo1 ?_ | refine br_z ?_ | refine br_o ?_ | refine br_zn ?_ | refine br_on ?_ | refine nz2 ?_ | refine nz6 ?_ | refine nz32 ?_ | refine And.intro (by assumption) ?_))); (conv => whnf)
        exact two (2 ^ n) 0 L' (by omega) (fun j hj => hl j (by omega))
      | succ m ih =>
        intro k L' k5 k6 hm hl
        have ec : (nI k).toNatClampNeg = k := nI_clamp (by omega)
        have hin : vp_in (nI k) 9 := vp_in_nI (by omega) (by decide)
        refine am_Wp_bl mfH_weigh [3, 42] 60 _ _ _ _ _ ?_
        (repeat ((conv => whnf); (first | refine zo0 ?_ | refine zo1 ?_ | refine br_z ?_ | refine br_o ?_ | refine br_zn ?_ | refine br_on ?_ | refine nz2 ?_ | refine nz6 ?_ | refine nz32 ?_ | refine And.intro (by assumption) ?_))); (conv => whnf)
        refine ⟨fun h1 => absurd h1 (nI_nlt (by omega) (by omega)), fun h1 => ?_⟩
        (repeat ((conv => whnf); (first | refine zo0 ?_ | refine zo1 ?_ | refine br_z ?_ | refine br_o ?_ | refine br_zn ?_ | refine br_on ?_ | refine nz2 ?_ | refine nz6 ?_ | refine nz32 ?_ | refine And.intro (by assumption) ?_))); (conv => whnf)
        refine ⟨fun h1 => absurd h1 (nI_nlt (a := 8) (b := k) (by omega) (by omega)), fun h1 => ?_⟩
        (repeat ((conv => whnf); (first | refine zo0 ?_ | refine zo1 ?_ | refine br_z ?_ | refine br_o ?_ | refine br_zn ?_ | refine br_on ?_ | refine nz2 ?_ | refine nz6 ?_ | refine nz32 ?_ | refine And.intro (by assumption) ?_))); (conv => whnf)
        refine ⟨c, k, n, rfl, hc, rfl, by omega, rfl, hn, ?_⟩
        (repeat ((conv => whnf); (first | refine zo0 ?_ | refine zo1 ?_ | refine br_z ?_ | refine br_o ?_ | refine br_zn ?_ | refine br_on ?_ | refine nz2 ?_ | refine nz6 ?_ | refine nz32 ?_ | refine And.intro (by assumption) ?_))); (conv => whnf)
        rw [ec, nI_1]
        refine ih (k + 1) _ _ _ (by omega) (fun j hj => ?_)
        by_cases e : j = k
        · rw [e, pk_uLs]
        · rw [pk_uLn e]; exact hl j (by omega)
    refine ⟨rfl, am_Wp_bl mfH_weigh [3] 20 _ _ _ _ _ ?_⟩
    (repeat ((conv => whnf); (first | refine zo0 ?_ | refine zo1 ?_ | refine br_z ?_ | refine br_o ?_ | refine br_zn ?_ | refine br_on ?_ | refine nz2 ?_ | refine nz6 ?_ | refine nz32 ?_ | refine And.intro (by assumption) ?_))); (conv => whnf)
    exact one (n + 1) 0 L none none (by omega) (fun j hj => absurd hj (by omega))
  · exact absurd h id
theorem clH_weigh (l : Launch) : ∀ (a : Nat) (ins : Instr) (b dd : Nat), csH_weigh[a]? = some (ins, b, dd) → am_Call l yH_weigh.cls 1 ins b dd (fnH_weigh a) := by
  intro a ins b dd h
  match a, h with
  | 0, h => cases h; exact am_callS (okH_weight l) wcH_weight (am_m3 (i := 235) rfl rfl) wtH_weight inH (by decide +kernel) (by decide) (by decide)
  | 1, h => cases h; exact am_callS (okJ_bitCount l) wcJ_bitCount (am_m3 (i := 238) rfl rfl) wtJ_bitCount inJI (by decide +kernel) (by decide) (by decide)
  | k + 2, h => simp [csH_weigh] at h
theorem okH_weigh (l : Launch) : am_Ok l yH_weigh prog_2_method_2_code 7 (some .long) 1 spH_weigh := am_ok_of (by decide +kernel) flH_ok kiH_ok klH_ok ckH_weigh (clH_weigh l) wpH_weigh
def fnX_learnChances : Nat → am_Sp := fun a => match a with
  | 0 => spP_take
  | 1 => spW_run
  | 2 => spW_lacking
  | _ => am_no
theorem mfX_learnChances : ∀ a, am_mono (fnX_learnChances a) := fun a => match a with
  | 0 => moP_take
  | 1 => moW_run
  | 2 => moW_lacking
  | _ + 3 => am_no_mono
def spX_learnChances : am_Sp := fun as D L K => match as with
  | [.ref 0] => ∃ v : vs_T, vok v ∧ ix D v ∧ ∀ D', fc D D' → ix D' v → (∀ S, S < 2 ^ vn v 0 6 → D' 37 S = hlk v S) → K none D' L
  | _ => False
theorem moX_learnChances : am_mono spX_learnChances := by
  intro as D L K K' hK h
  unfold spX_learnChances at h ⊢
  split at h
  · obtain ⟨z0, z1, z2, hz⟩ := h
    exact ⟨z0, z1, z2, fun D' q1 q2 q3 => hK _ _ _ (hz D' q1 q2 q3)⟩
  · exact h
theorem wpX_learnChances : ∀ (as : List Value) (D : am_D) (L : am_L) (K : am_K), spX_learnChances as D L K → am_fit 2 as = true ∧ am_Wp false 0 cdX_learnChances fnX_learnChances K 0 (am_lo 2 as) [] D L := by
  intro as D L K h
  unfold spX_learnChances at h
  split at h
  · obtain ⟨v, hv, hi, hK⟩ := h
    have hP := vpl_ok hv
    have hE := vev_ok hv
    obtain ⟨hib, ⟨c1, c2, c3, c4, c5, c6⟩, hw⟩ := hi
    obtain ⟨e0, e1⟩ := vok_ev hv
    have q3 : D 7 3 = nI (vn v 0 6) := hib.2.2.1.1.trans e0
    have p2 := ch_p2 (vn v 0 6) (by omega)
    have fin : ∀ (D' : am_D), (∀ k, k < 18 ∨ (26 < k ∧ k ≠ 36 ∧ k ≠ 37) → D' k = D k) → iw D' → D' 36 2 = 1 → (∀ S, S < 2 ^ vn v 0 6 → D' 37 S = hlk v S) → K none D' L := fun D' f w q1 q2 => by
      have F : ∀ k, 26 < k → k ≠ 36 → k ≠ 37 → D' k = D k := fun k h1 h2 h3 => f k (by omega)
      exact hK D' (fun k hk => f k (by omega)) ⟨ib_fr hib (fun k hk => f k (by omega)), ⟨icd_fr c1 (fun k _ _ => F k (by omega) (by omega) (by omega)), ich_fr c2 (F _ (by omega) (by omega) (by omega)), icr_fr c3 (F _ (by omega) (by omega) (by omega)), ics_fr c4 (F _ (by omega) (by omega) (by omega)), icp_fr c5 (F _ (by omega) (by omega) (by omega)), Or.inr ⟨q1, q2⟩⟩, w⟩ q2
    obtain ⟨n, en⟩ : ∃ n, vn v 0 6 = n := ⟨_, rfl⟩
    rw [en] at q3 e1 p2 fin
    have done : ∀ (D' : am_D) (k1 : Option Value), (∀ k, k < 18 ∨ (26 < k ∧ k ≠ 37) → D' k = D k) → iw D' → (∀ S, S < 2 ^ n → D' 37 S = hlk v S) → am_Wp false 0 cdX_learnChances fnX_learnChances K 85 [some (.ref 0), k1] [] D' L := by
      intro D' k1 hf hw' hl
      refine am_Wp_bl mfX_learnChances [] 30 _ _ _ _ _ ?_
      (repeat ((conv => whnf); (first | refine zo0 ?_ | refine zo1 ?_ | refine br_z ?_ | refine br_o ?_ | refine br_zn ?_ | refine br_on ?_ | refine nz2 ?_ | refine nz6 ?_ | refine nz32 ?_ | refine And.intro (by assumption) ?_))); (conv => whnf)
      exact fin _ (fun k hk => (am_up_ne (by omega)).trans (hf k (by omega))) (iw_fr hw' (fun k _ _ => am_up_ne (by omega))) (by rw [ap, if_pos rfl, if_pos rfl]) (fun S hS => by rw [am_up_ne (by decide)]; exact hl S hS)
    have loop : ∀ (m S : Nat) (D' : am_D), S + m = 2 ^ n → (∀ k, k < 18 ∨ (26 < k ∧ k ≠ 37) → D' k = D k) → px D' 18 (vpl v) → iw D' → (∀ s, s < S → D' 37 s = hlk v s) → am_Wp false 0 cdX_learnChances fnX_learnChances K 13 [some (.ref 0), some (.int (nI S))] [] D' L := by
      intro m
      induction m with
      | zero =>
        intro S D' hm hf hp hw' hl
        refine am_Wp_bl mfX_learnChances [13, 85] 40 _ _ _ _ _ ?_
        (repeat ((conv => whnf); (first | refine zo0 ?_ | refine zo1 ?_ | refine br_z ?_ | refine br_o ?_ | refine br_zn ?_ | refine br_on ?_ | refine nz2 ?_ | refine nz6 ?_ | refine nz32 ?_ | refine And.intro (by assumption) ?_))); (conv => whnf)
        refine ⟨fun h1 => ?_, fun h1 => ?_⟩
        · (repeat ((conv => whnf); (first | refine zo0 ?_ | refine zo1 ?_ | refine br_z ?_ | refine br_o ?_ | refine br_zn ?_ | refine br_on ?_ | refine nz2 ?_ | refine nz6 ?_ | refine nz32 ?_ | refine And.intro (by assumption) ?_))); (conv => whnf)
          exact done D' _ hf hw' (fun s hs => hl s (by omega))
        · (repeat ((conv => whnf); (first | refine zo0 ?_ | refine zo1 ?_ | refine br_z ?_ | refine br_o ?_ | refine br_zn ?_ | refine br_on ?_ | refine nz2 ?_ | refine nz6 ?_ | refine nz32 ?_ | refine And.intro (by assumption) ?_))); (conv => whnf)
          rw [hf 7 (by omega), q3, ch_shl n (by omega)]
          refine ⟨fun h1 => ?_, fun h1 => absurd (nI_le (by omega) (by omega)) h1⟩
          (repeat ((conv => whnf); (first | refine zo0 ?_ | refine zo1 ?_ | refine br_z ?_ | refine br_o ?_ | refine br_zn ?_ | refine br_on ?_ | refine nz2 ?_ | refine nz6 ?_ | refine nz32 ?_ | refine And.intro (by assumption) ?_))); (conv => whnf)
          exact done D' _ hf hw' (fun s hs => hl s (by omega))
      | succ m ih =>
        intro S D' hm hf hp hw' hl
        have ec : (nI S).toNatClampNeg = S := nI_clamp (by omega)
        have hin : vp_in (nI S) 256 := vp_in_nI (by omega) (by decide)
        have he' : ie D' v := ie_fr hib.2.2.1 (fun k _ _ => hf k (by omega))
        refine am_Wp_bl mfX_learnChances [13, 85] 80 _ _ _ _ _ ?_
        (repeat ((conv => whnf); (first | refine zo0 ?_ | refine zo1 ?_ | refine br_z ?_ | refine br_o ?_ | refine br_zn ?_ | refine br_on ?_ | refine nz2 ?_ | refine nz6 ?_ | refine nz32 ?_ | refine And.intro (by assumption) ?_))); (conv => whnf)
        refine ⟨fun h1 => absurd h1 (nI_ge (b := 256) (by omega) (by omega)), fun h1 => ?_⟩
        (repeat ((conv => whnf); (first | refine zo0 ?_ | refine zo1 ?_ | refine br_z ?_ | refine br_o ?_ | refine br_zn ?_ | refine br_on ?_ | refine nz2 ?_ | refine nz6 ?_ | refine nz32 ?_ | refine And.intro (by assumption) ?_))); (conv => whnf)
        rw [hf 7 (by omega), q3, ch_shl n (by omega)]
        refine ⟨fun h1 => absurd h1 (nI_ge (by omega) (by omega)), fun h1 => ?_⟩
        have px1 := pxA (nI S ^^^ -1) hp
        (repeat ((conv => whnf); (first | refine zo0 ?_ | refine zo1 ?_ | refine br_z ?_ | refine br_o ?_ | refine br_zn ?_ | refine br_on ?_ | refine nz2 ?_ | refine nz6 ?_ | refine nz32 ?_ | refine And.intro (by assumption) ?_))); (conv => whnf)
        refine ⟨vpl v, vev v, prs S, Or.inr rfl, hP, hE, px1, ex_fr (ex_ie he' hv) (am_up_ne (by decide)) (am_up_ne (by decide)) (am_up_ne (by decide)) (am_up_ne (by decide)), by rw [ap, if_pos rfl, if_pos rfl]; exact prx_prs S (by omega), iw_fr hw' (fun k _ _ => am_up_ne (by omega)), fun D2 g f2 w2 t2 => ?_⟩
        have px2 := px_fr4 px1 f2 (by decide)
        (repeat ((conv => whnf); (first | refine zo0 ?_ | refine zo1 ?_ | refine br_z ?_ | refine br_o ?_ | refine br_zn ?_ | refine br_on ?_ | refine nz2 ?_ | refine nz6 ?_ | refine nz32 ?_ | refine And.intro (by assumption) ?_))); (conv => whnf)
        refine ⟨vpl v, _, g, 48, Or.inr rfl, hP, mw_run_ok hP hE 48, px2, w2, ?_⟩
        (repeat ((conv => whnf); (first | refine zo0 ?_ | refine zo1 ?_ | refine br_z ?_ | refine br_o ?_ | refine br_zn ?_ | refine br_on ?_ | refine nz2 ?_ | refine nz6 ?_ | refine nz32 ?_ | refine And.intro (by assumption) ?_))); (conv => whnf)
        rw [ec, nI_1]
        refine ih (S + 1) _ (by omega) (fun k hk => (am_up_ne (by omega)).trans ((f2 k (by omega)).trans ((am_up_ne (by omega)).trans (hf k hk)))) (px_fr px2 (am_up_ne (by decide)) (am_up_ne (by decide)) (am_up_ne (by decide)) (am_up_ne (by decide))) ⟨_, g, wx_fr w2 (am_up_ne (by decide)) (am_up_ne (by decide)) (am_up_ne (by decide)) (am_up_ne (by decide))⟩ (fun s hs => ?_)
        rw [ap, if_pos rfl]
        by_cases e : s = S
        · rw [if_pos e, e]; rfl
        · rw [if_neg e, f2 37 (by omega), am_up_ne (by decide)]
          exact hl s (by omega)
    refine ⟨rfl, am_Wp_bl mfX_learnChances [13] 40 _ _ _ _ _ ?_⟩
    (repeat ((conv => whnf); (first | refine zo0 ?_ | refine zo1 ?_ | refine br_z ?_ | refine br_o ?_ | refine br_zn ?_ | refine br_on ?_ | refine nz2 ?_ | refine nz6 ?_ | refine nz32 ?_ | refine And.intro (by assumption) ?_))); (conv => whnf)
    refine ⟨vpl v, hib.2.1.1, fun D1 f1 p1 a1 => ?_⟩
    (repeat ((conv => whnf); (first | refine zo0 ?_ | refine zo1 ?_ | refine br_z ?_ | refine br_o ?_ | refine br_zn ?_ | refine br_on ?_ | refine nz2 ?_ | refine nz6 ?_ | refine nz32 ?_ | refine And.intro (by assumption) ?_))); (conv => whnf)
    exact loop (2 ^ n) 0 D1 (by omega) (fun k hk => f1 k (by omega)) p1 (iw_fr hw (fun k _ _ => f1 k (by omega))) (fun s hs => absurd hs (by omega))
  · exact absurd h id
theorem clX_learnChances (l : Launch) : ∀ (a : Nat) (ins : Instr) (b dd : Nat), csX_learnChances[a]? = some (ins, b, dd) → am_Call l yX_learnChances.cls 4 ins b dd (fnX_learnChances a) := by
  intro a ins b dd h
  match a, h with
  | 0, h => cases h; exact am_callV (T := F_4) (N := 8) (okP_take l) wcP_take (am_m3 (i := 122) rfl rfl) wiP_take wsP_take inP rfl (by decide) (by decide +kernel) (by decide) (by decide)
  | 1, h => cases h; exact am_callV (T := F_9) (N := 17) (okW_run l) wcW_run (am_m3 (i := 22) rfl rfl) wiW_run wsW_run inW rfl (by decide) (by decide +kernel) (by decide) (by decide)
  | 2, h => cases h; exact am_callV (T := F_9) (N := 17) (okW_lacking l) wcW_lacking (am_m3 (i := 175) rfl rfl) wiW_lacking wsW_lacking inW rfl (by decide) (by decide +kernel) (by decide) (by decide)
  | k + 3, h => simp [csX_learnChances] at h
theorem okX_learnChances (l : Launch) : am_Ok l yX_learnChances prog_1_method_53_code 2 none 4 spX_learnChances := am_ok_of (by decide +kernel) flX_ok kiX_ok klX_ok ckX_learnChances (clX_learnChances l) wpX_learnChances
def fnX_chance : Nat → am_Sp := fun a => match a with
  | 0 => spX_isDoor
  | 1 => spX_learnChances
  | 2 => spH_weigh
  | _ => am_no
theorem mfX_chance : ∀ a, am_mono (fnX_chance a) := fun a => match a with
  | 0 => moX_isDoor
  | 1 => moX_learnChances
  | 2 => moH_weigh
  | _ + 3 => am_no_mono
def spX_chance : am_Sp := fun as D L K => match as with
  | [.ref 0, .int x, .int y, .int z] => ∃ v : vs_T, vok v ∧ ix D v ∧ ∀ (D' : am_D) (L' : am_L), fc D D' → ix D' v → K (some (.long (qChance v x y z))) D' L'
  | _ => False
theorem moX_chance : am_mono spX_chance := by
  intro as D L K K' hK h
  unfold spX_chance at h ⊢
  split at h
  · obtain ⟨z0, z1, z2, hz⟩ := h
    exact ⟨z0, z1, z2, fun D' L' q1 q2 => hK _ _ _ (hz D' L' q1 q2)⟩
  · exact h
theorem wpX_chance : ∀ (as : List Value) (D : am_D) (L : am_L) (K : am_K), spX_chance as D L K → am_fit 9 as = true ∧ am_Wp false 0 cdX_chance fnX_chance K 0 (am_lo 9 as) [] D L := by
  intro as D L K h
  unfold spX_chance at h
  split at h
  · rename_i x y z
    obtain ⟨v, hv, hi, hK⟩ := h
    have kb : ¬ ((0 ≤ x ∧ x ≤ 16) ∧ (0 ≤ y ∧ y ≤ 11) ∧ (0 ≤ z ∧ z ≤ 1)) → K (some (.long (-9223372036854775806))) D L := fun q => by
      have k := hK D L fc_rf
      unfold qChance at k
      by_cases c0 : (0 ≤ x ∧ x ≤ 16)
      · by_cases c1 : (0 ≤ y ∧ y ≤ 11)
        · by_cases c2 : (0 ≤ z ∧ z ≤ 1)
          · exact absurd ⟨c0, c1, c2⟩ q
          · rw [if_pos c0, if_pos c1, if_neg c2] at k
            exact k hi
        · rw [if_pos c0, if_neg c1] at k
          exact k hi
      · rw [if_neg c0] at k
        exact k hi
    obtain ⟨e0, e1⟩ := vok_ev hv
    have q3 : D 7 3 = nI (vn v 0 6) := hi.1.2.2.1.1.trans e0
    refine ⟨rfl, am_Wp_bl mfX_chance [44] 60 _ _ _ _ _ ?_⟩
    (repeat ((conv => whnf); (first | refine zo0 ?_ | refine zo1 ?_ | refine br_z ?_ | refine br_o ?_ | refine br_zn ?_ | refine br_on ?_ | refine nz2 ?_ | refine nz6 ?_ | refine nz32 ?_ | refine And.intro (by assumption) ?_))); (conv => whnf)
    refine ⟨fun h1 => ?_, fun h1 => ?_⟩
    · (repeat ((conv => whnf); (first | refine zo0 ?_ | refine zo1 ?_ | refine br_z ?_ | refine br_o ?_ | refine br_zn ?_ | refine br_on ?_ | refine nz2 ?_ | refine nz6 ?_ | refine nz32 ?_ | refine And.intro (by assumption) ?_))); (conv => whnf)
      exact kb (fun q => rn0 h1 q.1)
    (repeat ((conv => whnf); (first | refine zo0 ?_ | refine zo1 ?_ | refine br_z ?_ | refine br_o ?_ | refine br_zn ?_ | refine br_on ?_ | refine nz2 ?_ | refine nz6 ?_ | refine nz32 ?_ | refine And.intro (by assumption) ?_))); (conv => whnf)
    refine ⟨fun h2 => ?_, fun h2 => ?_⟩
    · (repeat ((conv => whnf); (first | refine zo0 ?_ | refine zo1 ?_ | refine br_z ?_ | refine br_o ?_ | refine br_zn ?_ | refine br_on ?_ | refine nz2 ?_ | refine nz6 ?_ | refine nz32 ?_ | refine And.intro (by assumption) ?_))); (conv => whnf)
      exact kb (fun q => rn1 h2 q.1)
    have hx : 0 ≤ x ∧ x ≤ 16 := rq1 h1 h2
    (repeat ((conv => whnf); (first | refine zo0 ?_ | refine zo1 ?_ | refine br_z ?_ | refine br_o ?_ | refine br_zn ?_ | refine br_on ?_ | refine nz2 ?_ | refine nz6 ?_ | refine nz32 ?_ | refine And.intro (by assumption) ?_))); (conv => whnf)
    refine ⟨fun hd => ?_, fun hd => ?_⟩
    rotate_left
    · (repeat ((conv => whnf); (first | refine zo0 ?_ | refine zo1 ?_ | refine br_z ?_ | refine br_o ?_ | refine br_zn ?_ | refine br_on ?_ | refine nz2 ?_ | refine nz6 ?_ | refine nz32 ?_ | refine And.intro (by assumption) ?_))); (conv => whnf)
      exact kb (fun q => hd (isd_iff.mpr q.2.1))
    have hy := isd_iff.mp hd
    (repeat ((conv => whnf); (first | refine zo0 ?_ | refine zo1 ?_ | refine br_z ?_ | refine br_o ?_ | refine br_zn ?_ | refine br_on ?_ | refine nz2 ?_ | refine nz6 ?_ | refine nz32 ?_ | refine And.intro (by assumption) ?_))); (conv => whnf)
    refine ⟨fun h3 => ?_, fun h3 => ?_⟩
    · (repeat ((conv => whnf); (first | refine zo0 ?_ | refine zo1 ?_ | refine br_z ?_ | refine br_o ?_ | refine br_zn ?_ | refine br_on ?_ | refine nz2 ?_ | refine nz6 ?_ | refine nz32 ?_ | refine And.intro (by assumption) ?_))); (conv => whnf)
      exact kb (fun q => rn0 h3 q.2.2)
    (repeat ((conv => whnf); (first | refine zo0 ?_ | refine zo1 ?_ | refine br_z ?_ | refine br_o ?_ | refine br_zn ?_ | refine br_on ?_ | refine nz2 ?_ | refine nz6 ?_ | refine nz32 ?_ | refine And.intro (by assumption) ?_))); (conv => whnf)
    refine ⟨fun h4 => ?_, fun h4 => ?_⟩
    rotate_left
    · (repeat ((conv => whnf); (first | refine zo0 ?_ | refine zo1 ?_ | refine br_z ?_ | refine br_o ?_ | refine br_zn ?_ | refine br_on ?_ | refine nz2 ?_ | refine nz6 ?_ | refine nz32 ?_ | refine And.intro (by assumption) ?_))); (conv => whnf)
      exact kb (fun q => rn2 h4 q.2.2)
    have hz : 0 ≤ z ∧ z ≤ 1 := ⟨Int32.not_lt.mp h3, h4⟩
    obtain ⟨c, hc, ec⟩ := rg_nI (n := 16) (by decide) hx
    obtain ⟨d, hd', ed⟩ := rg_nI (n := 11) (by decide) hy
    obtain ⟨wh, hwh, ew⟩ := rg_nI (n := 1) (by decide) hz
    subst ec ed ew
    have z0 : nI wh = 0 ↔ wh = 0 := by rw [← nI_0, nI_eq (by omega) (by omega)]
    have hA := chs_le (v := v) (d := d) hc e1 (2 ^ vn v 0 6)
    have kg : ∀ D' L', fc D D' → ix D' v → K (some (.long (aCh v c d wh))) D' L' := fun D' L' f i1 => by
      have kk := hK D' L' f i1
      unfold qChance at kk
      rw [if_pos hx, if_pos hy, if_pos hz, cN_nI (by omega), cN_nI (by omega), cN_nI (by omega)] at kk
      exact kk
    have eC : aCh v c d wh = lN (if wh = 0 then chs v c d (2 ^ vn v 0 6) / Nat.gcd (chs v c d (2 ^ vn v 0 6)) (2 ^ (4 * vn v 0 6)) else 2 ^ (4 * vn v 0 6) / Nat.gcd (chs v c d (2 ^ vn v 0 6)) (2 ^ (4 * vn v 0 6))) := rfl
    have hS := hsum_chs (c := c) hv (show d < 12 by omega)
    obtain ⟨n, en⟩ : ∃ n, vn v 0 6 = n := ⟨_, rfl⟩
    rw [en] at q3 e1 hA eC hS
    have p2 := ch_p2 n (by omega)
    have p8 := ch_p8 n (by omega)
    obtain ⟨A, eA⟩ : ∃ A, chs v c d (2 ^ n) = A := ⟨_, rfl⟩
    rw [eA] at hA eC hS
    have hA2 : A < 2 ^ 62 := by
      have : 2 ^ n * 4294967296 ≤ 256 * 4294967296 := Nat.mul_le_mul_right _ p2
      omega
    have main : ∀ D0, fc D D0 → ix D0 v → (∀ S, S < 2 ^ n → D0 37 S = hlk v S) → am_Wp false 0 cdX_chance fnX_chance K 44 [some (.ref 0), some (.int (nI c)), some (.int (nI d)), some (.int (nI wh)), none, none, none, none, none] [] D0 L := by
      intro D0 f0 i0 l0
      have d7 : D0 7 3 = nI n := by rw [i0.1.2.2.1.1, ← en]; exact e0
      have loop : ∀ (L' : am_L) (m j a b : Nat), j + m = 32 → j ≤ 4 * n → A = a * 2 ^ j → b = 2 ^ (4 * n - j) → am_Wp false 0 cdX_chance fnX_chance K 88 [some (.ref 0), some (.int (nI c)), some (.int (nI d)), some (.int (nI wh)), some (.long (lN a)), none, some (.long (lN b)), none, some (.int (nI j))] [] D0 L' := by
        intro L' m
        have fin : ∀ (j a b : Nat) (k8 : Option Value), j ≤ 4 * n → A = a * 2 ^ j → b = 2 ^ (4 * n - j) → Nat.gcd a b = 1 → am_Wp false 0 cdX_chance fnX_chance K 139 [some (.ref 0), some (.int (nI c)), some (.int (nI d)), some (.int (nI wh)), some (.long (lN a)), none, some (.long (lN b)), none, k8] [] D0 L' := by
          intro j a b k8 hj h1 h2 hg
          have kk := kg D0 L' f0 i0
          have hB : 2 ^ (4 * n) = b * 2 ^ j := by rw [h2, ← Nat.pow_add]; congr 1; omega
          obtain ⟨x1, x2⟩ := half_end h1 hB hg
          rw [eC, x1, x2] at kk
          refine am_Wp_bl mfX_chance [] 30 _ _ _ _ _ ?_
          (repeat ((conv => whnf); (first | refine zo0 ?_ | refine zo1 ?_ | refine br_z ?_ | refine br_o ?_ | refine br_zn ?_ | refine br_on ?_ | refine nz2 ?_ | refine nz6 ?_ | refine nz32 ?_ | refine And.intro (by assumption) ?_))); (conv => whnf)
          rw [z0]
          refine ⟨fun h5 => ?_, fun h5 => ?_⟩
          · (repeat ((conv => whnf); (first | refine zo0 ?_ | refine zo1 ?_ | refine br_z ?_ | refine br_o ?_ | refine br_zn ?_ | refine br_on ?_ | refine nz2 ?_ | refine nz6 ?_ | refine nz32 ?_ | refine And.intro (by assumption) ?_))); (conv => whnf)
            rw [if_neg h5] at kk
            exact kk
          · (repeat ((conv => whnf); (first | refine zo0 ?_ | refine zo1 ?_ | refine br_z ?_ | refine br_o ?_ | refine br_zn ?_ | refine br_on ?_ | refine nz2 ?_ | refine nz6 ?_ | refine nz32 ?_ | refine And.intro (by assumption) ?_))); (conv => whnf)
            rw [if_pos h5] at kk
            exact kk
        induction m with
        | zero =>
          intro j a b hm hj h1 h2
          refine am_Wp_bl mfX_chance [88, 139] 30 _ _ _ _ _ ?_
          (repeat ((conv => whnf); (first | refine zo0 ?_ | refine zo1 ?_ | refine br_z ?_ | refine br_o ?_ | refine br_zn ?_ | refine br_on ?_ | refine nz2 ?_ | refine nz6 ?_ | refine nz32 ?_ | refine And.intro (by assumption) ?_))); (conv => whnf)
          refine ⟨fun h5 => ?_, fun h5 => absurd (nI_le (a := 32) (by omega) (by omega)) h5⟩
          (repeat ((conv => whnf); (first | refine zo0 ?_ | refine zo1 ?_ | refine br_z ?_ | refine br_o ?_ | refine br_zn ?_ | refine br_on ?_ | refine nz2 ?_ | refine nz6 ?_ | refine nz32 ?_ | refine And.intro (by assumption) ?_))); (conv => whnf)
          refine fin j a b _ hj h1 h2 ?_
          rw [h2, show 4 * n - j = 0 by omega, Nat.pow_zero, Nat.gcd_one_right]
        | succ m ih =>
          intro j a b hm hj h1 h2
          have ha : a ≤ A := by rw [h1]; exact Nat.le_mul_of_pos_right _ (Nat.two_pow_pos j)
          have hb : b ≤ 2 ^ (4 * n) := by rw [h2]; exact Nat.pow_le_pow_right (by decide) (by omega)
          have t2 : (2 : Int64) = lN 2 := by decide +kernel
          have t0 : (0 : Int64) = lN 0 := by decide +kernel
          have ra : lN a - lN a / 2 * 2 = lN (a % 2) := by rw [t2]; exact pk_lRem (by omega) (by decide) (by decide)
          have rb : lN b - lN b / 2 * 2 = lN (b % 2) := by rw [t2]; exact pk_lRem (by omega) (by decide) (by decide)
          have da : lN a / 2 = lN (a / 2) := by rw [t2]; exact pk_lDiv (by omega) (by decide) (by decide)
          have db : lN b / 2 = lN (b / 2) := by rw [t2]; exact pk_lDiv (by omega) (by decide) (by decide)
          have ma := Nat.mod_lt a (show 0 < 2 by decide)
          have mb := Nat.mod_lt b (show 0 < 2 by decide)
          refine am_Wp_bl mfX_chance [88, 139] 60 _ _ _ _ _ ?_
          (repeat ((conv => whnf); (first | refine zo0 ?_ | refine zo1 ?_ | refine br_z ?_ | refine br_o ?_ | refine br_zn ?_ | refine br_on ?_ | refine nz2 ?_ | refine nz6 ?_ | refine nz32 ?_ | refine And.intro (by assumption) ?_))); (conv => whnf)
          refine ⟨fun h5 => absurd h5 (nI_ge (b := 32) (by omega) (by omega)), fun h5 => ?_⟩
          (repeat ((conv => whnf); (first | refine zo0 ?_ | refine zo1 ?_ | refine br_z ?_ | refine br_o ?_ | refine br_zn ?_ | refine br_on ?_ | refine nz2 ?_ | refine nz6 ?_ | refine nz32 ?_ | refine And.intro (by assumption) ?_))); (conv => whnf)
          refine ⟨by decide, ?_⟩
          (repeat ((conv => whnf); (first | refine zo0 ?_ | refine zo1 ?_ | refine br_z ?_ | refine br_o ?_ | refine br_zn ?_ | refine br_on ?_ | refine nz2 ?_ | refine nz6 ?_ | refine nz32 ?_ | refine And.intro (by assumption) ?_))); (conv => whnf)
          rw [ra, lcmp0, t0, pk_lEQ (by omega) (by omega)]
          refine ⟨fun h6 => ?_, fun h6 => ?_⟩
          · (repeat ((conv => whnf); (first | refine zo0 ?_ | refine zo1 ?_ | refine br_z ?_ | refine br_o ?_ | refine br_zn ?_ | refine br_on ?_ | refine nz2 ?_ | refine nz6 ?_ | refine nz32 ?_ | refine And.intro (by assumption) ?_))); (conv => whnf)
            refine fin j a b _ hj h1 h2 ?_
            rw [h2]
            exact odd_gcd (by omega)
          (repeat ((conv => whnf); (first | refine zo0 ?_ | refine zo1 ?_ | refine br_z ?_ | refine br_o ?_ | refine br_zn ?_ | refine br_on ?_ | refine nz2 ?_ | refine nz6 ?_ | refine nz32 ?_ | refine And.intro (by assumption) ?_))); (conv => whnf)
          refine ⟨by decide, ?_⟩
          (repeat ((conv => whnf); (first | refine zo0 ?_ | refine zo1 ?_ | refine br_z ?_ | refine br_o ?_ | refine br_zn ?_ | refine br_on ?_ | refine nz2 ?_ | refine nz6 ?_ | refine nz32 ?_ | refine And.intro (by assumption) ?_))); (conv => whnf)
          rw [rb, lcmp0, t0, pk_lEQ (by omega) (by omega)]
          refine ⟨fun h7 => ?_, fun h7 => ?_⟩
          · (repeat ((conv => whnf); (first | refine zo0 ?_ | refine zo1 ?_ | refine br_z ?_ | refine br_o ?_ | refine br_zn ?_ | refine br_on ?_ | refine nz2 ?_ | refine nz6 ?_ | refine nz32 ?_ | refine And.intro (by assumption) ?_))); (conv => whnf)
            refine fin j a b _ hj h1 h2 ?_
            have q0 : 4 * n - j = 0 := by
              apply Decidable.byContradiction
              intro q
              apply h7
              rw [h2, show 4 * n - j = (4 * n - j - 1) + 1 by omega, Nat.pow_succ]
              exact Nat.mul_mod_left _ _
            rw [h2, q0, Nat.pow_zero, Nat.gcd_one_right]
          have hj2 : j < 4 * n := by
            apply Decidable.byContradiction
            intro q
            rw [h2, show 4 * n - j = 0 by omega] at h7
            exact absurd h7 (by decide)
          (repeat ((conv => whnf); (first | refine zo0 ?_ | refine zo1 ?_ | refine br_z ?_ | refine br_o ?_ | refine br_zn ?_ | refine br_on ?_ | refine nz2 ?_ | refine nz6 ?_ | refine nz32 ?_ | refine And.intro (by assumption) ?_))); (conv => whnf)
          refine ⟨by decide, ?_⟩
          (repeat ((conv => whnf); (first | refine zo0 ?_ | refine zo1 ?_ | refine br_z ?_ | refine br_o ?_ | refine br_zn ?_ | refine br_on ?_ | refine nz2 ?_ | refine nz6 ?_ | refine nz32 ?_ | refine And.intro (by assumption) ?_))); (conv => whnf)
          refine ⟨by decide, ?_⟩
          (repeat ((conv => whnf); (first | refine zo0 ?_ | refine zo1 ?_ | refine br_z ?_ | refine br_o ?_ | refine br_zn ?_ | refine br_on ?_ | refine nz2 ?_ | refine nz6 ?_ | refine nz32 ?_ | refine And.intro (by assumption) ?_))); (conv => whnf)
          rw [da, db, nI_1]
          refine ih (j + 1) (a / 2) (b / 2) (by omega) (by omega) ?_ ?_
          · rw [h1, Nat.pow_succ, Nat.mul_comm (2 ^ j) 2, ← Nat.mul_assoc]
            congr 1
            omega
          · rw [h2, show 4 * n - j = (4 * n - (j + 1)) + 1 by omega, Nat.pow_succ]
            exact Nat.mul_div_cancel _ (by decide)
      refine am_Wp_bl mfX_chance [88] 60 _ _ _ _ _ ?_
      (repeat ((conv => whnf); (first | refine zo0 ?_ | refine zo1 ?_ | refine br_z ?_ | refine br_o ?_ | refine br_zn ?_ | refine br_on ?_ | refine nz2 ?_ | refine nz6 ?_ | refine nz32 ?_ | refine And.intro (by assumption) ?_))); (conv => whnf)
      rw [d7]
      refine ⟨c, d, n, hlk v, rfl, hc, rfl, by omega, rfl, by omega, l0, fun L' => ?_⟩
      rw [hS]
      (repeat ((conv => whnf); (first | refine zo0 ?_ | refine zo1 ?_ | refine br_z ?_ | refine br_o ?_ | refine br_zn ?_ | refine br_on ?_ | refine nz2 ?_ | refine nz6 ?_ | refine nz32 ?_ | refine And.intro (by assumption) ?_))); (conv => whnf)
      rw [d7, ch_shll n (by omega), lcmp0, show (0 : Int64) = lN 0 by decide +kernel, pk_lEQ (by omega) (by omega)]
      refine ⟨fun h5 => ?_, fun h5 => ?_⟩
      · (repeat ((conv => whnf); (first | refine zo0 ?_ | refine zo1 ?_ | refine br_z ?_ | refine br_o ?_ | refine br_zn ?_ | refine br_on ?_ | refine nz2 ?_ | refine nz6 ?_ | refine nz32 ?_ | refine And.intro (by assumption) ?_))); (conv => whnf)
        exact loop L' 32 0 A (2 ^ (4 * n)) (by omega) (by omega) (by omega) rfl
      · have kk := kg D0 L' f0 i0
        rw [eC, h5, Nat.gcd_zero_left, Nat.div_self (Nat.two_pow_pos _), Nat.zero_div] at kk
        (repeat ((conv => whnf); (first | refine zo0 ?_ | refine zo1 ?_ | refine br_z ?_ | refine br_o ?_ | refine br_zn ?_ | refine br_on ?_ | refine nz2 ?_ | refine nz6 ?_ | refine nz32 ?_ | refine And.intro (by assumption) ?_))); (conv => whnf)
        rw [nI_l (by omega)]
        rcases (show wh = 0 ∨ wh = 1 by omega) with rfl | rfl
        · rw [if_pos rfl] at kk; exact kk
        · rw [if_neg (by decide)] at kk; exact kk
    (repeat ((conv => whnf); (first | refine zo0 ?_ | refine zo1 ?_ | refine br_z ?_ | refine br_o ?_ | refine br_zn ?_ | refine br_on ?_ | refine nz2 ?_ | refine nz6 ?_ | refine nz32 ?_ | refine And.intro (by assumption) ?_))); (conv => whnf)
    refine ⟨fun h5 => ?_, fun h5 => ?_⟩
    · rcases hi.2.1.2.2.2.2.2 with q | q
      · exact absurd q h5
      · (repeat ((conv => whnf); (first | refine zo0 ?_ | refine zo1 ?_ | refine br_z ?_ | refine br_o ?_ | refine br_zn ?_ | refine br_on ?_ | refine nz2 ?_ | refine nz6 ?_ | refine nz32 ?_ | refine And.intro (by assumption) ?_))); (conv => whnf)
        exact main D fc_rf hi (by rw [← en]; exact q.2)
    (repeat ((conv => whnf); (first | refine zo0 ?_ | refine zo1 ?_ | refine br_z ?_ | refine br_o ?_ | refine br_zn ?_ | refine br_on ?_ | refine nz2 ?_ | refine nz6 ?_ | refine nz32 ?_ | refine And.intro (by assumption) ?_))); (conv => whnf)
    refine ⟨v, hv, hi, fun D1 f1 i1 l1 => ?_⟩
    (repeat ((conv => whnf); (first | refine zo0 ?_ | refine zo1 ?_ | refine br_z ?_ | refine br_o ?_ | refine br_zn ?_ | refine br_on ?_ | refine nz2 ?_ | refine nz6 ?_ | refine nz32 ?_ | refine And.intro (by assumption) ?_))); (conv => whnf)
    exact main D1 f1 i1 (by rw [← en]; exact l1)
  · exact absurd h id
theorem clX_chance (l : Launch) : ∀ (a : Nat) (ins : Instr) (b dd : Nat), csX_chance[a]? = some (ins, b, dd) → am_Call l yX_chance.cls 5 ins b dd (fnX_chance a) := by
  intro a ins b dd h
  match a, h with
  | 0, h => cases h; exact am_callS (okX_isDoor l) wcX_isDoor (am_m2 (i := 199) rfl rfl) wtX_isDoor inX (by decide +kernel) (by decide) (by decide)
  | 1, h => cases h; exact am_callV (T := F_10) (N := 17) (okX_learnChances l) wcX_learnChances (am_m3 (i := 227) rfl rfl) wiX_learnChances wsX_learnChances inX rfl (by decide) (by decide +kernel) (by decide) (by decide)
  | 2, h => cases h; exact am_callV (T := F_0) (N := 3) (okH_weigh l) wcH_weigh (am_m3 (i := 231) rfl rfl) wiH_weigh wsH_weigh inH rfl (by decide) (by decide +kernel) (by decide) (by decide)
  | k + 3, h => simp [csX_chance] at h
theorem okX_chance (l : Launch) : am_Ok l yX_chance prog_1_method_28_code 9 (some .long) 5 spX_chance := am_ok_of (by decide +kernel) flX_ok kiX_ok klX_ok ckX_chance (clX_chance l) wpX_chance
