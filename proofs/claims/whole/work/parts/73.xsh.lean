/-! sheets of the class -/
theorem ix_sh {D D1 : am_D} {v v' : vs_T} (h : ix D v) (f : ∀ k, k < 41 ∨ 48 < k → D1 k = D k) (h1 : ish D1 v') (hc : ∀ c, c < 7 → v' c = v c) : ix D1 v' := by
  obtain ⟨⟨a1, a2, a3, a4, a5, a6⟩, b, c⟩ := h
  have h0 : ∀ i, v' 0 i = v 0 i := fun i => by rw [hc 0 (by decide)]
  refine ⟨⟨?_, ?_, ?_, ?_, ?_, h1⟩, ?_, iw_fr c (fun k _ _ => f k (by omega))⟩
  · exact it_cg (fun i _ => h0 i) (hc 1 (by decide)) (it_fr a1 (fun k _ _ => f k (by omega)))
  · exact ipl_cg (fun i _ => h0 i) (hc 1 (by decide)) (ipl_fr a2 (fun k _ _ => f k (by omega)))
  · exact ie_cg (h0 6) (hc 2 (by decide)) (hc 3 (by decide)) (hc 4 (by decide)) (ie_fr a3 (fun k _ _ => f k (by omega)))
  · exact isg_cg (h0 7) (hc 5 (by decide)) (hc 6 (by decide)) (isg_fr a4 (fun k _ _ => f k (by omega)))
  · rw [f 0 (by omega), h0 8]; exact a5
  · exact ic_cg ⟨fun i _ => h0 i, fun q h1 h2 => hc q (by omega)⟩ (ic_fr b (fun k _ _ => f k (by omega)))
theorem ix_find {D : am_D} {v : vs_T} {x : Int32} (h : ix D v) : ix (am_up D 0 16 x) (gFind v x) := by
  obtain ⟨⟨a1, a2, a3, a4, a5, a6⟩, b, c⟩ := h
  have f : ∀ k, 0 < k → am_up D 0 16 x k = D k := fun k hk => am_up_ne (by omega)
  have h0 : ∀ i, i ≠ 8 → gFind v x 0 i = v 0 i := fun i hi => by unfold gFind; rw [ap, if_pos rfl, if_neg hi]
  have hc : ∀ c, 0 < c → gFind v x c = v c := fun c hc => by unfold gFind; exact am_up_ne (by omega)
  refine ⟨⟨?_, ?_, ?_, ?_, ?_, ?_⟩, ?_, iw_fr c (fun k _ _ => f k (by omega))⟩
  · exact it_cg (fun i _ => h0 i (by omega)) (hc 1 (by decide)) (it_fr a1 (fun k _ _ => f k (by omega)))
  · exact ipl_cg (fun i _ => h0 i (by omega)) (hc 1 (by decide)) (ipl_fr a2 (fun k _ _ => f k (by omega)))
  · exact ie_cg (h0 6 (by decide)) (hc 2 (by decide)) (hc 3 (by decide)) (hc 4 (by decide)) (ie_fr a3 (fun k _ _ => f k (by omega)))
  · exact isg_cg (h0 7 (by decide)) (hc 5 (by decide)) (hc 6 (by decide)) (isg_fr a4 (fun k _ _ => f k (by omega)))
  · unfold gFind; rw [ap_s, ap_s]
  · exact ish_cg (hc 7 (by decide)) (hc 8 (by decide)) (hc 9 (by decide)) (hc 10 (by decide)) (ish_fr a6 (fun k _ _ => f k (by omega)))
  · exact ic_cg ⟨fun i hi => h0 i (by omega), fun q h1 h2 => hc q (by omega)⟩ (ic_fr b (fun k _ _ => f k (by omega)))
theorem ish_mk {D D1 : am_D} {v v' : vs_T} {s : Nat} (h : ish D v) (f : ∀ k, k ≠ 2 * s + 41 → k ≠ 2 * s + 42 → D1 k = D k) (hv : ∀ q, q ≠ s → v' 7 q = v 7 q ∧ v' 8 q = v 8 q ∧ v' 9 q = v 9 q ∧ ∀ i, i < 60 → v' 10 (60 * q + i) = v 10 (60 * q + i)) (h1 : D1 (2 * s + 41) 1 = v' 8 s ∧ D1 (2 * s + 41) 2 = v' 9 s ∧ D1 (2 * s + 41) 3 = 1 - v' 7 s ∧ ∀ i, i < 60 → D1 (2 * s + 42) i = v' 10 (60 * s + i)) : ish D1 v' := fun q hq => by
  by_cases e : q = s
  · rw [e]; exact h1
  · have a := h q hq
    have b := hv q e
    rw [f (2 * q + 41) (by omega) (by omega), f (2 * q + 42) (by omega) (by omega), b.1, b.2.1, b.2.2.1]
    exact ⟨a.1, a.2.1, a.2.2.1, fun i hi => (a.2.2.2 i hi).trans (b.2.2.2 i hi).symm⟩
/-- which sheet -/
def shc (k s : Nat) : Prop := (k = 41 ∧ s = 0) ∨ (k = 43 ∧ s = 1) ∨ (k = 45 ∧ s = 2) ∨ (k = 47 ∧ s = 3)
theorem le_pred {x : Int32} {n : Nat} (hn : n ≤ 60) : x ≤ nI n - 1 ↔ x < nI n := by
  have e : (nI n - 1).toInt = (n : Int) - 1 := pk_sub_toInt (b := 1) (by omega) (by decide)
  rw [Int32.le_iff_toInt_le, Int32.lt_iff_toInt_lt, e, nI_toInt (by omega)]
  omega
theorem vok_sh {v : vs_T} (h : vok v) {s : Nat} (hs : s < 4) : (v 7 s = 0 ∨ v 7 s = 1) ∧ v 9 s = nI (vn v 9 s) ∧ vn v 9 s ≤ 60 := by
  obtain ⟨a, b, n, c, d⟩ := h.2.2.2.2.2.2.2 s hs
  have e := vn_nI d (by omega)
  exact ⟨a, by rw [e]; exact d, by rw [e]; exact c⟩
/-- an item was kept -/
theorem ish_item {D : am_D} {v : vs_T} {s i : Nat} {x : Int32} (h : ish D v) (hs : s < 4) (hi : i < 60) : ish (am_up D (2 * s + 42) i x) (am_up v 10 (60 * s + i) x) := by
  refine ish_mk (s := s) h (fun k _ h2 => am_up_ne h2) (fun q hq => ⟨?_, ?_, ?_, fun j hj => ?_⟩) ⟨?_, ?_, ?_, fun j hj => ?_⟩
  · rw [am_up_ne (by decide)]
  · rw [am_up_ne (by decide)]
  · rw [am_up_ne (by decide)]
  · rw [ap, if_pos rfl, if_neg (by omega)]
  · rw [am_up_ne (by omega), am_up_ne (by decide)]; exact (h s hs).1
  · rw [am_up_ne (by omega), am_up_ne (by decide)]; exact (h s hs).2.1
  · rw [am_up_ne (by omega), am_up_ne (by decide)]; exact (h s hs).2.2.1
  · rw [ap, ap, if_pos rfl, if_pos rfl]
    by_cases e : j = i
    · rw [if_pos e, if_pos (by omega)]
    · rw [if_neg e, if_neg (by omega)]; exact (h s hs).2.2.2 j hj
def fnG_begin : Nat → am_Sp := fun a => match a with
  | 0 => spJ_fill
  | _ => am_no
theorem mfG_begin : ∀ a, am_mono (fnG_begin a) := fun a => match a with
  | 0 => moJ_fill
  | _ + 1 => am_no_mono
def spG_begin : am_Sp := am_ini cdG_begin fnG_begin 17 3
theorem moG_begin : am_mono spG_begin := am_ini_mono mfG_begin
theorem wpG_begin : ∀ (as : List Value) (D : am_D) (L : am_L) (K : am_K), spG_begin as D L K → am_fit 3 as = true ∧ am_Wp false 0 cdG_begin fnG_begin K 0 (am_lo 3 as) [] D L := am_ini_Wp mfG_begin
theorem clG_begin (l : Launch) : ∀ (a : Nat) (ins : Instr) (b dd : Nat), csG_begin[a]? = some (ins, b, dd) → am_Call l yG_begin.cls 1 ins b dd (fnG_begin a) := by
  intro a ins b dd h
  match a, h with
  | 0, h => cases h; exact am_callS (okJ_fill l) wcJ_fill (am_m4 (i := 16) rfl rfl) wtJ_fill inJA (by decide +kernel) (by decide) (by decide)
  | k + 1, h => simp [csG_begin] at h
theorem okG_begin (l : Launch) : am_Ok l yG_begin prog_7_method_2_code 3 none 1 spG_begin := am_ok_of (by decide +kernel) flG_ok kiG_ok klG_ok ckG_begin (clG_begin l) wpG_begin
def fnG_refusal : Nat → am_Sp := fun _ => am_no
theorem mfG_refusal : ∀ a, am_mono (fnG_refusal a) := fun _ => am_no_mono
def spG_refusal : am_Sp := fun as D L K => match as with
  | [.ref k, .int y, .int z] => ∃ (v : vs_T) (s : Nat), vok v ∧ ish D v ∧ shc k s ∧ K (some (.int (vlck v s y z))) D L
  | _ => False
theorem moG_refusal : am_mono spG_refusal := by
  intro as D L K K' hK h
  unfold spG_refusal at h ⊢
  split at h
  · obtain ⟨z0, z1, z2, z3, z4, hz⟩ := h
    exact ⟨z0, z1, z2, z3, z4, hK _ _ _ hz⟩
  · exact h
theorem wpG_refusal : ∀ (as : List Value) (D : am_D) (L : am_L) (K : am_K), spG_refusal as D L K → am_fit 3 as = true ∧ am_Wp false 0 cdG_refusal fnG_refusal K 0 (am_lo 3 as) [] D L := by
  intro as D L K h
  unfold spG_refusal at h
  split at h
  · rename_i k y z
    obtain ⟨v, s, hv, hs, hc, hK⟩ := h
    unfold vlck lck at hK
    rcases hc with ⟨rfl, rfl⟩ | ⟨rfl, rfl⟩ | ⟨rfl, rfl⟩ | ⟨rfl, rfl⟩
    · obtain ⟨w1, w2, w3, w4⟩ := hs 0 (by decide)
      obtain ⟨o7, o9, o60⟩ := vok_sh hv (show 0 < 4 by decide)
      have d1 : D 41 1 = v 8 0 := w1
      have d2 : D 41 2 = nI (vn v 9 0) := w2.trans o9
      have d3 : D 41 3 = 1 - v 7 0 := w3
      have d4 : ∀ i, i < 60 → D 42 i = v 10 (60 * 0 + i) := w4
      refine ⟨rfl, am_Wp_bl mfG_refusal [] 40 _ _ _ _ _ ?_⟩
      (repeat ((conv => whnf); (first | refine zo0 ?_ | refine zo1 ?_ | refine br_z ?_ | refine br_o ?_ | refine br_zn ?_ | refine br_on ?_ | refine nz2 ?_ | refine nz6 ?_ | refine nz32 ?_ | refine And.intro (by assumption) ?_))); (conv => whnf)
      rw [d3]
      refine ⟨fun h1 => ?_, fun h1 => ?_⟩
      rotate_left
      · have e7 : v 7 0 = 0 := by
          rcases o7 with q | q
          · exact q
          · rw [q] at h1; exact absurd (by decide) h1
        rw [if_pos e7] at hK
        (repeat ((conv => whnf); (first | refine zo0 ?_ | refine zo1 ?_ | refine br_z ?_ | refine br_o ?_ | refine br_zn ?_ | refine br_on ?_ | refine nz2 ?_ | refine nz6 ?_ | refine nz32 ?_ | refine And.intro (by assumption) ?_))); (conv => whnf)
        exact hK
      have e7 : ¬ v 7 0 = 0 := fun q => by rw [q] at h1; exact absurd h1 (by decide)
      rw [if_neg e7] at hK
      (repeat ((conv => whnf); (first | refine zo0 ?_ | refine zo1 ?_ | refine br_z ?_ | refine br_o ?_ | refine br_zn ?_ | refine br_on ?_ | refine nz2 ?_ | refine nz6 ?_ | refine nz32 ?_ | refine And.intro (by assumption) ?_))); (conv => whnf)
      rw [d1]
      refine ⟨fun h2 => ?_, fun h2 => ?_⟩
      rotate_left
      · rw [if_neg (fun q => h2 q.symm)] at hK
        (repeat ((conv => whnf); (first | refine zo0 ?_ | refine zo1 ?_ | refine br_z ?_ | refine br_o ?_ | refine br_zn ?_ | refine br_on ?_ | refine nz2 ?_ | refine nz6 ?_ | refine nz32 ?_ | refine And.intro (by assumption) ?_))); (conv => whnf)
        exact hK
      rw [if_pos h2.symm, o9] at hK
      (repeat ((conv => whnf); (first | refine zo0 ?_ | refine zo1 ?_ | refine br_z ?_ | refine br_o ?_ | refine br_zn ?_ | refine br_on ?_ | refine nz2 ?_ | refine nz6 ?_ | refine nz32 ?_ | refine And.intro (by assumption) ?_))); (conv => whnf)
      refine ⟨fun h3 => ?_, fun h3 => ?_⟩
      · rw [if_neg (fun q => Int32.not_lt.mpr q.1 h3)] at hK
        (repeat ((conv => whnf); (first | refine zo0 ?_ | refine zo1 ?_ | refine br_z ?_ | refine br_o ?_ | refine br_zn ?_ | refine br_on ?_ | refine nz2 ?_ | refine nz6 ?_ | refine nz32 ?_ | refine And.intro (by assumption) ?_))); (conv => whnf)
        exact hK
      (repeat ((conv => whnf); (first | refine zo0 ?_ | refine zo1 ?_ | refine br_z ?_ | refine br_o ?_ | refine br_zn ?_ | refine br_on ?_ | refine nz2 ?_ | refine nz6 ?_ | refine nz32 ?_ | refine And.intro (by assumption) ?_))); (conv => whnf)
      rw [d2]
      refine ⟨fun h4 => ?_, fun h4 => ?_⟩
      · rw [if_pos ⟨Int32.not_lt.mp h3, (le_pred o60).mpr h4⟩] at hK
        (repeat ((conv => whnf); (first | refine zo0 ?_ | refine zo1 ?_ | refine br_z ?_ | refine br_o ?_ | refine br_zn ?_ | refine br_on ?_ | refine nz2 ?_ | refine nz6 ?_ | refine nz32 ?_ | refine And.intro (by assumption) ?_))); (conv => whnf)
        exact hK
      · rw [if_neg (fun q => h4 ((le_pred o60).mp q.2))] at hK
        (repeat ((conv => whnf); (first | refine zo0 ?_ | refine zo1 ?_ | refine br_z ?_ | refine br_o ?_ | refine br_zn ?_ | refine br_on ?_ | refine nz2 ?_ | refine nz6 ?_ | refine nz32 ?_ | refine And.intro (by assumption) ?_))); (conv => whnf)
        exact hK
    · obtain ⟨w1, w2, w3, w4⟩ := hs 1 (by decide)
      obtain ⟨o7, o9, o60⟩ := vok_sh hv (show 1 < 4 by decide)
      have d1 : D 43 1 = v 8 1 := w1
      have d2 : D 43 2 = nI (vn v 9 1) := w2.trans o9
      have d3 : D 43 3 = 1 - v 7 1 := w3
      have d4 : ∀ i, i < 60 → D 44 i = v 10 (60 * 1 + i) := w4
      refine ⟨rfl, am_Wp_bl mfG_refusal [] 40 _ _ _ _ _ ?_⟩
      (repeat ((conv => whnf); (first | refine zo0 ?_ | refine zo1 ?_ | refine br_z ?_ | refine br_o ?_ | refine br_zn ?_ | refine br_on ?_ | refine nz2 ?_ | refine nz6 ?_ | refine nz32 ?_ | refine And.intro (by assumption) ?_))); (conv => whnf)
      rw [d3]
      refine ⟨fun h1 => ?_, fun h1 => ?_⟩
      rotate_left
      · have e7 : v 7 1 = 0 := by
          rcases o7 with q | q
          · exact q
          · rw [q] at h1; exact absurd (by decide) h1
        rw [if_pos e7] at hK
        (repeat ((conv => whnf); (first | refine zo0 ?_ | refine zo1 ?_ | refine br_z ?_ | refine br_o ?_ | refine br_zn ?_ | refine br_on ?_ | refine nz2 ?_ | refine nz6 ?_ | refine nz32 ?_ | refine And.intro (by assumption) ?_))); (conv => whnf)
        exact hK
      have e7 : ¬ v 7 1 = 0 := fun q => by rw [q] at h1; exact absurd h1 (by decide)
      rw [if_neg e7] at hK
      (repeat ((conv => whnf); (first | refine zo0 ?_ | refine zo1 ?_ | refine br_z ?_ | refine br_o ?_ | refine br_zn ?_ | refine br_on ?_ | refine nz2 ?_ | refine nz6 ?_ | refine nz32 ?_ | refine And.intro (by assumption) ?_))); (conv => whnf)
      rw [d1]
      refine ⟨fun h2 => ?_, fun h2 => ?_⟩
      rotate_left
      · rw [if_neg (fun q => h2 q.symm)] at hK
        (repeat ((conv => whnf); (first | refine zo0 ?_ | refine zo1 ?_ | refine br_z ?_ | refine br_o ?_ | refine br_zn ?_ | refine br_on ?_ | refine nz2 ?_ | refine nz6 ?_ | refine nz32 ?_ | refine And.intro (by assumption) ?_))); (conv => whnf)
        exact hK
      rw [if_pos h2.symm, o9] at hK
      (repeat ((conv => whnf); (first | refine zo0 ?_ | refine zo1 ?_ | refine br_z ?_ | refine br_o ?_ | refine br_zn ?_ | refine br_on ?_ | refine nz2 ?_ | refine nz6 ?_ | refine nz32 ?_ | refine And.intro (by assumption) ?_))); (conv => whnf)
      refine ⟨fun h3 => ?_, fun h3 => ?_⟩
      · rw [if_neg (fun q => Int32.not_lt.mpr q.1 h3)] at hK
        (repeat ((conv => whnf); (first | refine zo0 ?_ | refine zo1 ?_ | refine br_z ?_ | refine br_o ?_ | refine br_zn ?_ | refine br_on ?_ | refine nz2 ?_ | refine nz6 ?_ | refine nz32 ?_ | refine And.intro (by assumption) ?_))); (conv => whnf)
        exact hK
      (repeat ((conv => whnf); (first | refine zo0 ?_ | refine zo1 ?_ | refine br_z ?_ | refine br_o ?_ | refine br_zn ?_ | refine br_on ?_ | refine nz2 ?_ | refine nz6 ?_ | refine nz32 ?_ | refine And.intro (by assumption) ?_))); (conv => whnf)
      rw [d2]
      refine ⟨fun h4 => ?_, fun h4 => ?_⟩
      · rw [if_pos ⟨Int32.not_lt.mp h3, (le_pred o60).mpr h4⟩] at hK
        (repeat ((conv => whnf); (first | refine zo0 ?_ | refine zo1 ?_ | refine br_z ?_ | refine br_o ?_ | refine br_zn ?_ | refine br_on ?_ | refine nz2 ?_ | refine nz6 ?_ | refine nz32 ?_ | refine And.intro (by assumption) ?_))); (conv => whnf)
        exact hK
      · rw [if_neg (fun q => h4 ((le_pred o60).mp q.2))] at hK
        (repeat ((conv => whnf); (first | refine zo0 ?_ | refine zo1 ?_ | refine br_z ?_ | refine br_o ?_ | refine br_zn ?_ | refine br_on ?_ | refine nz2 ?_ | refine nz6 ?_ | refine nz32 ?_ | refine And.intro (by assumption) ?_))); (conv => whnf)
        exact hK
    · obtain ⟨w1, w2, w3, w4⟩ := hs 2 (by decide)
      obtain ⟨o7, o9, o60⟩ := vok_sh hv (show 2 < 4 by decide)
      have d1 : D 45 1 = v 8 2 := w1
      have d2 : D 45 2 = nI (vn v 9 2) := w2.trans o9
      have d3 : D 45 3 = 1 - v 7 2 := w3
      have d4 : ∀ i, i < 60 → D 46 i = v 10 (60 * 2 + i) := w4
      refine ⟨rfl, am_Wp_bl mfG_refusal [] 40 _ _ _ _ _ ?_⟩
      (repeat ((conv => whnf); (first | refine zo0 ?_ | refine zo1 ?_ | refine br_z ?_ | refine br_o ?_ | refine br_zn ?_ | refine br_on ?_ | refine nz2 ?_ | refine nz6 ?_ | refine nz32 ?_ | refine And.intro (by assumption) ?_))); (conv => whnf)
      rw [d3]
      refine ⟨fun h1 => ?_, fun h1 => ?_⟩
      rotate_left
      · have e7 : v 7 2 = 0 := by
          rcases o7 with q | q
          · exact q
          · rw [q] at h1; exact absurd (by decide) h1
        rw [if_pos e7] at hK
        (repeat ((conv => whnf); (first | refine zo0 ?_ | refine zo1 ?_ | refine br_z ?_ | refine br_o ?_ | refine br_zn ?_ | refine br_on ?_ | refine nz2 ?_ | refine nz6 ?_ | refine nz32 ?_ | refine And.intro (by assumption) ?_))); (conv => whnf)
        exact hK
      have e7 : ¬ v 7 2 = 0 := fun q => by rw [q] at h1; exact absurd h1 (by decide)
      rw [if_neg e7] at hK
      (repeat ((conv => whnf); (first | refine zo0 ?_ | refine zo1 ?_ | refine br_z ?_ | refine br_o ?_ | refine br_zn ?_ | refine br_on ?_ | refine nz2 ?_ | refine nz6 ?_ | refine nz32 ?_ | refine And.intro (by assumption) ?_))); (conv => whnf)
      rw [d1]
      refine ⟨fun h2 => ?_, fun h2 => ?_⟩
      rotate_left
      · rw [if_neg (fun q => h2 q.symm)] at hK
        (repeat ((conv => whnf); (first | refine zo0 ?_ | refine zo1 ?_ | refine br_z ?_ | refine br_o ?_ | refine br_zn ?_ | refine br_on ?_ | refine nz2 ?_ | refine nz6 ?_ | refine nz32 ?_ | refine And.intro (by assumption) ?_))); (conv => whnf)
        exact hK
      rw [if_pos h2.symm, o9] at hK
      (repeat ((conv => whnf); (first | refine zo0 ?_ | refine zo1 ?_ | refine br_z ?_ | refine br_o ?_ | refine br_zn ?_ | refine br_on ?_ | refine nz2 ?_ | refine nz6 ?_ | refine nz32 ?_ | refine And.intro (by assumption) ?_))); (conv => whnf)
      refine ⟨fun h3 => ?_, fun h3 => ?_⟩
      · rw [if_neg (fun q => Int32.not_lt.mpr q.1 h3)] at hK
        (repeat ((conv => whnf); (first | refine zo0 ?_ | refine zo1 ?_ | refine br_z ?_ | refine br_o ?_ | refine br_zn ?_ | refine br_on ?_ | refine nz2 ?_ | refine nz6 ?_ | refine nz32 ?_ | refine And.intro (by assumption) ?_))); (conv => whnf)
        exact hK
      (repeat ((conv => whnf); (first | refine zo0 ?_ | refine zo1 ?_ | refine br_z ?_ | refine br_o ?_ | refine br_zn ?_ | refine br_on ?_ | refine nz2 ?_ | refine nz6 ?_ | refine nz32 ?_ | refine And.intro (by assumption) ?_))); (conv => whnf)
      rw [d2]
      refine ⟨fun h4 => ?_, fun h4 => ?_⟩
      · rw [if_pos ⟨Int32.not_lt.mp h3, (le_pred o60).mpr h4⟩] at hK
        (repeat ((conv => whnf); (first | refine zo0 ?_ | refine zo1 ?_ | refine br_z ?_ | refine br_o ?_ | refine br_zn ?_ | refine br_on ?_ | refine nz2 ?_ | refine nz6 ?_ | refine nz32 ?_ | refine And.intro (by assumption) ?_))); (conv => whnf)
        exact hK
      · rw [if_neg (fun q => h4 ((le_pred o60).mp q.2))] at hK
        (repeat ((conv => whnf); (first | refine zo0 ?_ | refine zo1 ?_ | refine br_z ?_ | refine br_o ?_ | refine br_zn ?_ | refine br_on ?_ | refine nz2 ?_ | refine nz6 ?_ | refine nz32 ?_ | refine And.intro (by assumption) ?_))); (conv => whnf)
        exact hK
    · obtain ⟨w1, w2, w3, w4⟩ := hs 3 (by decide)
      obtain ⟨o7, o9, o60⟩ := vok_sh hv (show 3 < 4 by decide)
      have d1 : D 47 1 = v 8 3 := w1
      have d2 : D 47 2 = nI (vn v 9 3) := w2.trans o9
      have d3 : D 47 3 = 1 - v 7 3 := w3
      have d4 : ∀ i, i < 60 → D 48 i = v 10 (60 * 3 + i) := w4
      refine ⟨rfl, am_Wp_bl mfG_refusal [] 40 _ _ _ _ _ ?_⟩
      (repeat ((conv => whnf); (first | refine zo0 ?_ | refine zo1 ?_ | refine br_z ?_ | refine br_o ?_ | refine br_zn ?_ | refine br_on ?_ | refine nz2 ?_ | refine nz6 ?_ | refine nz32 ?_ | refine And.intro (by assumption) ?_))); (conv => whnf)
      rw [d3]
      refine ⟨fun h1 => ?_, fun h1 => ?_⟩
      rotate_left
      · have e7 : v 7 3 = 0 := by
          rcases o7 with q | q
          · exact q
          · rw [q] at h1; exact absurd (by decide) h1
        rw [if_pos e7] at hK
        (repeat ((conv => whnf); (first | refine zo0 ?_ | refine zo1 ?_ | refine br_z ?_ | refine br_o ?_ | refine br_zn ?_ | refine br_on ?_ | refine nz2 ?_ | refine nz6 ?_ | refine nz32 ?_ | refine And.intro (by assumption) ?_))); (conv => whnf)
        exact hK
      have e7 : ¬ v 7 3 = 0 := fun q => by rw [q] at h1; exact absurd h1 (by decide)
      rw [if_neg e7] at hK
      (repeat ((conv => whnf); (first | refine zo0 ?_ | refine zo1 ?_ | refine br_z ?_ | refine br_o ?_ | refine br_zn ?_ | refine br_on ?_ | refine nz2 ?_ | refine nz6 ?_ | refine nz32 ?_ | refine And.intro (by assumption) ?_))); (conv => whnf)
      rw [d1]
      refine ⟨fun h2 => ?_, fun h2 => ?_⟩
      rotate_left
      · rw [if_neg (fun q => h2 q.symm)] at hK
        (repeat ((conv => whnf); (first | refine zo0 ?_ | refine zo1 ?_ | refine br_z ?_ | refine br_o ?_ | refine br_zn ?_ | refine br_on ?_ | refine nz2 ?_ | refine nz6 ?_ | refine nz32 ?_ | refine And.intro (by assumption) ?_))); (conv => whnf)
        exact hK
      rw [if_pos h2.symm, o9] at hK
      (repeat ((conv => whnf); (first | refine zo0 ?_ | refine zo1 ?_ | refine br_z ?_ | refine br_o ?_ | refine br_zn ?_ | refine br_on ?_ | refine nz2 ?_ | refine nz6 ?_ | refine nz32 ?_ | refine And.intro (by assumption) ?_))); (conv => whnf)
      refine ⟨fun h3 => ?_, fun h3 => ?_⟩
      · rw [if_neg (fun q => Int32.not_lt.mpr q.1 h3)] at hK
        (repeat ((conv => whnf); (first | refine zo0 ?_ | refine zo1 ?_ | refine br_z ?_ | refine br_o ?_ | refine br_zn ?_ | refine br_on ?_ | refine nz2 ?_ | refine nz6 ?_ | refine nz32 ?_ | refine And.intro (by assumption) ?_))); (conv => whnf)
        exact hK
      (repeat ((conv => whnf); (first | refine zo0 ?_ | refine zo1 ?_ | refine br_z ?_ | refine br_o ?_ | refine br_zn ?_ | refine br_on ?_ | refine nz2 ?_ | refine nz6 ?_ | refine nz32 ?_ | refine And.intro (by assumption) ?_))); (conv => whnf)
      rw [d2]
      refine ⟨fun h4 => ?_, fun h4 => ?_⟩
      · rw [if_pos ⟨Int32.not_lt.mp h3, (le_pred o60).mpr h4⟩] at hK
        (repeat ((conv => whnf); (first | refine zo0 ?_ | refine zo1 ?_ | refine br_z ?_ | refine br_o ?_ | refine br_zn ?_ | refine br_on ?_ | refine nz2 ?_ | refine nz6 ?_ | refine nz32 ?_ | refine And.intro (by assumption) ?_))); (conv => whnf)
        exact hK
      · rw [if_neg (fun q => h4 ((le_pred o60).mp q.2))] at hK
        (repeat ((conv => whnf); (first | refine zo0 ?_ | refine zo1 ?_ | refine br_z ?_ | refine br_o ?_ | refine br_zn ?_ | refine br_on ?_ | refine nz2 ?_ | refine nz6 ?_ | refine nz32 ?_ | refine And.intro (by assumption) ?_))); (conv => whnf)
        exact hK
  · exact absurd h id
theorem clG_refusal (l : Launch) : ∀ (a : Nat) (ins : Instr) (b dd : Nat), csG_refusal[a]? = some (ins, b, dd) → am_Call l yG_refusal.cls 0 ins b dd (fnG_refusal a) := by
  intro a ins b dd h
  match a, h with
  | k + 0, h => simp [csG_refusal] at h
theorem okG_refusal (l : Launch) : am_Ok l yG_refusal prog_7_method_3_code 3 (some .int) 0 spG_refusal := am_ok_of (by decide +kernel) flG_ok kiG_ok klG_ok ckG_refusal (clG_refusal l) wpG_refusal
def fnG_keep : Nat → am_Sp := fun _ => am_no
theorem mfG_keep : ∀ a, am_mono (fnG_keep a) := fun _ => am_no_mono
def spG_keep : am_Sp := fun as D L K => match as with
  | [.ref k, .int x, .int y] => ∃ (v : vs_T) (s i : Nat), vok v ∧ ish D v ∧ shc k s ∧ x = nI i ∧ i < vn v 9 s ∧ ∀ D', D' = am_up D (2 * s + 42) i (cut (v 8 s) y) → K none D' L
  | _ => False
theorem moG_keep : am_mono spG_keep := by
  intro as D L K K' hK h
  unfold spG_keep at h ⊢
  split at h
  · obtain ⟨z0, z1, z2, z3, z4, z5, z6, z7, hz⟩ := h
    exact ⟨z0, z1, z2, z3, z4, z5, z6, z7, fun D' q => hK _ _ _ (hz D' q)⟩
  · exact h
theorem wpG_keep : ∀ (as : List Value) (D : am_D) (L : am_L) (K : am_K), spG_keep as D L K → am_fit 3 as = true ∧ am_Wp false 0 cdG_keep fnG_keep K 0 (am_lo 3 as) [] D L := by
  intro as D L K h
  unfold spG_keep at h
  split at h
  · rename_i k x y
    obtain ⟨v, s, i, hv, hs, hc, rfl, hi, hK⟩ := h
    unfold cut at hK
    have ec : (nI i).toNatClampNeg = i := nI_clamp (by have := vok_sh hv (s := s) (by rcases hc with ⟨_, q⟩ | ⟨_, q⟩ | ⟨_, q⟩ | ⟨_, q⟩ <;> omega); omega)
    rcases hc with ⟨rfl, rfl⟩ | ⟨rfl, rfl⟩ | ⟨rfl, rfl⟩ | ⟨rfl, rfl⟩
    · obtain ⟨w1, w2, w3, w4⟩ := hs 0 (by decide)
      obtain ⟨o7, o9, o60⟩ := vok_sh hv (show 0 < 4 by decide)
      have d1 : D 41 1 = v 8 0 := w1
      have d2 : D 41 2 = nI (vn v 9 0) := w2.trans o9
      have d3 : D 41 3 = 1 - v 7 0 := w3
      have d4 : ∀ i, i < 60 → D 42 i = v 10 (60 * 0 + i) := w4
      have hin : vp_in (nI i) 60 := vp_in_nI (by omega) (by decide)
      refine ⟨rfl, am_Wp_bl mfG_keep [] 40 _ _ _ _ _ ?_⟩
      (repeat ((conv => whnf); (first | refine zo0 ?_ | refine zo1 ?_ | refine br_z ?_ | refine br_o ?_ | refine br_zn ?_ | refine br_on ?_ | refine nz2 ?_ | refine nz6 ?_ | refine nz32 ?_ | refine And.intro (by assumption) ?_))); (conv => whnf)
      refine ⟨fun h1 => absurd h1 (nI_pos (by omega)), fun h1 => ?_⟩
      (repeat ((conv => whnf); (first | refine zo0 ?_ | refine zo1 ?_ | refine br_z ?_ | refine br_o ?_ | refine br_zn ?_ | refine br_on ?_ | refine nz2 ?_ | refine nz6 ?_ | refine nz32 ?_ | refine And.intro (by assumption) ?_))); (conv => whnf)
      rw [d2]
      refine ⟨fun h1 => absurd h1 (nI_ge (by omega) (by omega)), fun h1 => ?_⟩
      (repeat ((conv => whnf); (first | refine zo0 ?_ | refine zo1 ?_ | refine br_z ?_ | refine br_o ?_ | refine br_zn ?_ | refine br_on ?_ | refine nz2 ?_ | refine nz6 ?_ | refine nz32 ?_ | refine And.intro (by assumption) ?_))); (conv => whnf)
      refine ⟨fun h1 => ?_, fun h1 => absurd (nI_lt (b := 60) (by omega) (by omega)) h1⟩
      (repeat ((conv => whnf); (first | refine zo0 ?_ | refine zo1 ?_ | refine br_z ?_ | refine br_o ?_ | refine br_zn ?_ | refine br_on ?_ | refine nz2 ?_ | refine nz6 ?_ | refine nz32 ?_ | refine And.intro (by assumption) ?_))); (conv => whnf)
      rw [d1]
      refine ⟨fun h2 => ?_, fun h2 => ?_⟩
      rotate_left
      · rw [if_pos h2] at hK
        (repeat ((conv => whnf); (first | refine zo0 ?_ | refine zo1 ?_ | refine br_z ?_ | refine br_o ?_ | refine br_zn ?_ | refine br_on ?_ | refine nz2 ?_ | refine nz6 ?_ | refine nz32 ?_ | refine And.intro (by assumption) ?_))); (conv => whnf)
        rw [ec]
        exact hK _ rfl
      rw [if_neg h2] at hK
      (repeat ((conv => whnf); (first | refine zo0 ?_ | refine zo1 ?_ | refine br_z ?_ | refine br_o ?_ | refine br_zn ?_ | refine br_on ?_ | refine nz2 ?_ | refine nz6 ?_ | refine nz32 ?_ | refine And.intro (by assumption) ?_))); (conv => whnf)
      rw [d1]
      refine ⟨fun h3 => ?_, fun h3 => ?_⟩
      rotate_left
      · rw [if_pos h3] at hK
        (repeat ((conv => whnf); (first | refine zo0 ?_ | refine zo1 ?_ | refine br_z ?_ | refine br_o ?_ | refine br_zn ?_ | refine br_on ?_ | refine nz2 ?_ | refine nz6 ?_ | refine nz32 ?_ | refine And.intro (by assumption) ?_))); (conv => whnf)
        rw [ec]
        exact hK _ rfl
      rw [if_neg h3] at hK
      (repeat ((conv => whnf); (first | refine zo0 ?_ | refine zo1 ?_ | refine br_z ?_ | refine br_o ?_ | refine br_zn ?_ | refine br_on ?_ | refine nz2 ?_ | refine nz6 ?_ | refine nz32 ?_ | refine And.intro (by assumption) ?_))); (conv => whnf)
      rw [ec]
      exact hK _ rfl
    · obtain ⟨w1, w2, w3, w4⟩ := hs 1 (by decide)
      obtain ⟨o7, o9, o60⟩ := vok_sh hv (show 1 < 4 by decide)
      have d1 : D 43 1 = v 8 1 := w1
      have d2 : D 43 2 = nI (vn v 9 1) := w2.trans o9
      have d3 : D 43 3 = 1 - v 7 1 := w3
      have d4 : ∀ i, i < 60 → D 44 i = v 10 (60 * 1 + i) := w4
      have hin : vp_in (nI i) 60 := vp_in_nI (by omega) (by decide)
      refine ⟨rfl, am_Wp_bl mfG_keep [] 40 _ _ _ _ _ ?_⟩
      (repeat ((conv => whnf); (first | refine zo0 ?_ | refine zo1 ?_ | refine br_z ?_ | refine br_o ?_ | refine br_zn ?_ | refine br_on ?_ | refine nz2 ?_ | refine nz6 ?_ | refine nz32 ?_ | refine And.intro (by assumption) ?_))); (conv => whnf)
      refine ⟨fun h1 => absurd h1 (nI_pos (by omega)), fun h1 => ?_⟩
      (repeat ((conv => whnf); (first | refine zo0 ?_ | refine zo1 ?_ | refine br_z ?_ | refine br_o ?_ | refine br_zn ?_ | refine br_on ?_ | refine nz2 ?_ | refine nz6 ?_ | refine nz32 ?_ | refine And.intro (by assumption) ?_))); (conv => whnf)
      rw [d2]
      refine ⟨fun h1 => absurd h1 (nI_ge (by omega) (by omega)), fun h1 => ?_⟩
      (repeat ((conv => whnf); (first | refine zo0 ?_ | refine zo1 ?_ | refine br_z ?_ | refine br_o ?_ | refine br_zn ?_ | refine br_on ?_ | refine nz2 ?_ | refine nz6 ?_ | refine nz32 ?_ | refine And.intro (by assumption) ?_))); (conv => whnf)
      refine ⟨fun h1 => ?_, fun h1 => absurd (nI_lt (b := 60) (by omega) (by omega)) h1⟩
      (repeat ((conv => whnf); (first | refine zo0 ?_ | refine zo1 ?_ | refine br_z ?_ | refine br_o ?_ | refine br_zn ?_ | refine br_on ?_ | refine nz2 ?_ | refine nz6 ?_ | refine nz32 ?_ | refine And.intro (by assumption) ?_))); (conv => whnf)
      rw [d1]
      refine ⟨fun h2 => ?_, fun h2 => ?_⟩
      rotate_left
      · rw [if_pos h2] at hK
        (repeat ((conv => whnf); (first | refine zo0 ?_ | refine zo1 ?_ | refine br_z ?_ | refine br_o ?_ | refine br_zn ?_ | refine br_on ?_ | refine nz2 ?_ | refine nz6 ?_ | refine nz32 ?_ | refine And.intro (by assumption) ?_))); (conv => whnf)
        rw [ec]
        exact hK _ rfl
      rw [if_neg h2] at hK
      (repeat ((conv => whnf); (first | refine zo0 ?_ | refine zo1 ?_ | refine br_z ?_ | refine br_o ?_ | refine br_zn ?_ | refine br_on ?_ | refine nz2 ?_ | refine nz6 ?_ | refine nz32 ?_ | refine And.intro (by assumption) ?_))); (conv => whnf)
      rw [d1]
      refine ⟨fun h3 => ?_, fun h3 => ?_⟩
      rotate_left
      · rw [if_pos h3] at hK
        (repeat ((conv => whnf); (first | refine zo0 ?_ | refine zo1 ?_ | refine br_z ?_ | refine br_o ?_ | refine br_zn ?_ | refine br_on ?_ | refine nz2 ?_ | refine nz6 ?_ | refine nz32 ?_ | refine And.intro (by assumption) ?_))); (conv => whnf)
        rw [ec]
        exact hK _ rfl
      rw [if_neg h3] at hK
      (repeat ((conv => whnf); (first | refine zo0 ?_ | refine zo1 ?_ | refine br_z ?_ | refine br_o ?_ | refine br_zn ?_ | refine br_on ?_ | refine nz2 ?_ | refine nz6 ?_ | refine nz32 ?_ | refine And.intro (by assumption) ?_))); (conv => whnf)
      rw [ec]
      exact hK _ rfl
    · obtain ⟨w1, w2, w3, w4⟩ := hs 2 (by decide)
      obtain ⟨o7, o9, o60⟩ := vok_sh hv (show 2 < 4 by decide)
      have d1 : D 45 1 = v 8 2 := w1
      have d2 : D 45 2 = nI (vn v 9 2) := w2.trans o9
      have d3 : D 45 3 = 1 - v 7 2 := w3
      have d4 : ∀ i, i < 60 → D 46 i = v 10 (60 * 2 + i) := w4
      have hin : vp_in (nI i) 60 := vp_in_nI (by omega) (by decide)
      refine ⟨rfl, am_Wp_bl mfG_keep [] 40 _ _ _ _ _ ?_⟩
      (repeat ((conv => whnf); (first | refine zo0 ?_ | refine zo1 ?_ | refine br_z ?_ | refine br_o ?_ | refine br_zn ?_ | refine br_on ?_ | refine nz2 ?_ | refine nz6 ?_ | refine nz32 ?_ | refine And.intro (by assumption) ?_))); (conv => whnf)
      refine ⟨fun h1 => absurd h1 (nI_pos (by omega)), fun h1 => ?_⟩
      (repeat ((conv => whnf); (first | refine zo0 ?_ | refine zo1 ?_ | refine br_z ?_ | refine br_o ?_ | refine br_zn ?_ | refine br_on ?_ | refine nz2 ?_ | refine nz6 ?_ | refine nz32 ?_ | refine And.intro (by assumption) ?_))); (conv => whnf)
      rw [d2]
      refine ⟨fun h1 => absurd h1 (nI_ge (by omega) (by omega)), fun h1 => ?_⟩
      (repeat ((conv => whnf); (first | refine zo0 ?_ | refine zo1 ?_ | refine br_z ?_ | refine br_o ?_ | refine br_zn ?_ | refine br_on ?_ | refine nz2 ?_ | refine nz6 ?_ | refine nz32 ?_ | refine And.intro (by assumption) ?_))); (conv => whnf)
      refine ⟨fun h1 => ?_, fun h1 => absurd (nI_lt (b := 60) (by omega) (by omega)) h1⟩
      (repeat ((conv => whnf); (first | refine zo0 ?_ | refine zo1 ?_ | refine br_z ?_ | refine br_o ?_ | refine br_zn ?_ | refine br_on ?_ | refine nz2 ?_ | refine nz6 ?_ | refine nz32 ?_ | refine And.intro (by assumption) ?_))); (conv => whnf)
      rw [d1]
      refine ⟨fun h2 => ?_, fun h2 => ?_⟩
      rotate_left
      · rw [if_pos h2] at hK
        (repeat ((conv => whnf); (first | refine zo0 ?_ | refine zo1 ?_ | refine br_z ?_ | refine br_o ?_ | refine br_zn ?_ | refine br_on ?_ | refine nz2 ?_ | refine nz6 ?_ | refine nz32 ?_ | refine And.intro (by assumption) ?_))); (conv => whnf)
        rw [ec]
        exact hK _ rfl
      rw [if_neg h2] at hK
      (repeat ((conv => whnf); (first | refine zo0 ?_ | refine zo1 ?_ | refine br_z ?_ | refine br_o ?_ | refine br_zn ?_ | refine br_on ?_ | refine nz2 ?_ | refine nz6 ?_ | refine nz32 ?_ | refine And.intro (by assumption) ?_))); (conv => whnf)
      rw [d1]
      refine ⟨fun h3 => ?_, fun h3 => ?_⟩
      rotate_left
      · rw [if_pos h3] at hK
        (repeat ((conv => whnf); (first | refine zo0 ?_ | refine zo1 ?_ | refine br_z ?_ | refine br_o ?_ | refine br_zn ?_ | refine br_on ?_ | refine nz2 ?_ | refine nz6 ?_ | refine nz32 ?_ | refine And.intro (by assumption) ?_))); (conv => whnf)
        rw [ec]
        exact hK _ rfl
      rw [if_neg h3] at hK
      (repeat ((conv => whnf); (first | refine zo0 ?_ | refine zo1 ?_ | refine br_z ?_ | refine br_o ?_ | refine br_zn ?_ | refine br_on ?_ | refine nz2 ?_ | refine nz6 ?_ | refine nz32 ?_ | refine And.intro (by assumption) ?_))); (conv => whnf)
      rw [ec]
      exact hK _ rfl
    · obtain ⟨w1, w2, w3, w4⟩ := hs 3 (by decide)
      obtain ⟨o7, o9, o60⟩ := vok_sh hv (show 3 < 4 by decide)
      have d1 : D 47 1 = v 8 3 := w1
      have d2 : D 47 2 = nI (vn v 9 3) := w2.trans o9
      have d3 : D 47 3 = 1 - v 7 3 := w3
      have d4 : ∀ i, i < 60 → D 48 i = v 10 (60 * 3 + i) := w4
      have hin : vp_in (nI i) 60 := vp_in_nI (by omega) (by decide)
      refine ⟨rfl, am_Wp_bl mfG_keep [] 40 _ _ _ _ _ ?_⟩
      (repeat ((conv => whnf); (first | refine zo0 ?_ | refine zo1 ?_ | refine br_z ?_ | refine br_o ?_ | refine br_zn ?_ | refine br_on ?_ | refine nz2 ?_ | refine nz6 ?_ | refine nz32 ?_ | refine And.intro (by assumption) ?_))); (conv => whnf)
      refine ⟨fun h1 => absurd h1 (nI_pos (by omega)), fun h1 => ?_⟩
      (repeat ((conv => whnf); (first | refine zo0 ?_ | refine zo1 ?_ | refine br_z ?_ | refine br_o ?_ | refine br_zn ?_ | refine br_on ?_ | refine nz2 ?_ | refine nz6 ?_ | refine nz32 ?_ | refine And.intro (by assumption) ?_))); (conv => whnf)
      rw [d2]
      refine ⟨fun h1 => absurd h1 (nI_ge (by omega) (by omega)), fun h1 => ?_⟩
      (repeat ((conv => whnf); (first | refine zo0 ?_ | refine zo1 ?_ | refine br_z ?_ | refine br_o ?_ | refine br_zn ?_ | refine br_on ?_ | refine nz2 ?_ | refine nz6 ?_ | refine nz32 ?_ | refine And.intro (by assumption) ?_))); (conv => whnf)
      refine ⟨fun h1 => ?_, fun h1 => absurd (nI_lt (b := 60) (by omega) (by omega)) h1⟩
      (repeat ((conv => whnf); (first | refine zo0 ?_ | refine zo1 ?_ | refine br_z ?_ | refine br_o ?_ | refine br_zn ?_ | refine br_on ?_ | refine nz2 ?_ | refine nz6 ?_ | refine nz32 ?_ | refine And.intro (by assumption) ?_))); (conv => whnf)
      rw [d1]
      refine ⟨fun h2 => ?_, fun h2 => ?_⟩
      rotate_left
      · rw [if_pos h2] at hK
        (repeat ((conv => whnf); (first | refine zo0 ?_ | refine zo1 ?_ | refine br_z ?_ | refine br_o ?_ | refine br_zn ?_ | refine br_on ?_ | refine nz2 ?_ | refine nz6 ?_ | refine nz32 ?_ | refine And.intro (by assumption) ?_))); (conv => whnf)
        rw [ec]
        exact hK _ rfl
      rw [if_neg h2] at hK
      (repeat ((conv => whnf); (first | refine zo0 ?_ | refine zo1 ?_ | refine br_z ?_ | refine br_o ?_ | refine br_zn ?_ | refine br_on ?_ | refine nz2 ?_ | refine nz6 ?_ | refine nz32 ?_ | refine And.intro (by assumption) ?_))); (conv => whnf)
      rw [d1]
      refine ⟨fun h3 => ?_, fun h3 => ?_⟩
      rotate_left
      · rw [if_pos h3] at hK
        (repeat ((conv => whnf); (first | refine zo0 ?_ | refine zo1 ?_ | refine br_z ?_ | refine br_o ?_ | refine br_zn ?_ | refine br_on ?_ | refine nz2 ?_ | refine nz6 ?_ | refine nz32 ?_ | refine And.intro (by assumption) ?_))); (conv => whnf)
        rw [ec]
        exact hK _ rfl
      rw [if_neg h3] at hK
      (repeat ((conv => whnf); (first | refine zo0 ?_ | refine zo1 ?_ | refine br_z ?_ | refine br_o ?_ | refine br_zn ?_ | refine br_on ?_ | refine nz2 ?_ | refine nz6 ?_ | refine nz32 ?_ | refine And.intro (by assumption) ?_))); (conv => whnf)
      rw [ec]
      exact hK _ rfl
  · exact absurd h id
theorem clG_keep (l : Launch) : ∀ (a : Nat) (ins : Instr) (b dd : Nat), csG_keep[a]? = some (ins, b, dd) → am_Call l yG_keep.cls 0 ins b dd (fnG_keep a) := by
  intro a ins b dd h
  match a, h with
  | k + 0, h => simp [csG_keep] at h
theorem okG_keep (l : Launch) : am_Ok l yG_keep prog_7_method_4_code 3 none 0 spG_keep := am_ok_of (by decide +kernel) flG_ok kiG_ok klG_ok ckG_keep (clG_keep l) wpG_keep
def fnG_item : Nat → am_Sp := fun _ => am_no
theorem mfG_item : ∀ a, am_mono (fnG_item a) := fun _ => am_no_mono
def spG_item : am_Sp := am_ini cdG_item fnG_item 17 2
theorem moG_item : am_mono spG_item := am_ini_mono mfG_item
theorem wpG_item : ∀ (as : List Value) (D : am_D) (L : am_L) (K : am_K), spG_item as D L K → am_fit 2 as = true ∧ am_Wp false 0 cdG_item fnG_item K 0 (am_lo 2 as) [] D L := am_ini_Wp mfG_item
theorem clG_item (l : Launch) : ∀ (a : Nat) (ins : Instr) (b dd : Nat), csG_item[a]? = some (ins, b, dd) → am_Call l yG_item.cls 0 ins b dd (fnG_item a) := by
  intro a ins b dd h
  match a, h with
  | k + 0, h => simp [csG_item] at h
theorem okG_item (l : Launch) : am_Ok l yG_item prog_7_method_5_code 2 (some .int) 0 spG_item := am_ok_of (by decide +kernel) flG_ok kiG_ok klG_ok ckG_item (clG_item l) wpG_item
def fnG_holds : Nat → am_Sp := fun _ => am_no
theorem mfG_holds : ∀ a, am_mono (fnG_holds a) := fun _ => am_no_mono
def spG_holds : am_Sp := fun as D L K => match as with
  | [.ref k, .int x, .int y] => ∃ (v : vs_T) (s : Nat), vok v ∧ ish D v ∧ shc k s ∧ ∀ r : Int32, ((hld (v 9 s) x y = true ∧ r = 1) ∨ (hld (v 9 s) x y = false ∧ r = 0)) → K (some (.int r)) D L
  | _ => False
theorem moG_holds : am_mono spG_holds := by
  intro as D L K K' hK h
  unfold spG_holds at h ⊢
  split at h
  · obtain ⟨z0, z1, z2, z3, z4, hz⟩ := h
    exact ⟨z0, z1, z2, z3, z4, fun r q => hK _ _ _ (hz r q)⟩
  · exact h
theorem wpG_holds : ∀ (as : List Value) (D : am_D) (L : am_L) (K : am_K), spG_holds as D L K → am_fit 3 as = true ∧ am_Wp false 0 cdG_holds fnG_holds K 0 (am_lo 3 as) [] D L := by
  intro as D L K h
  unfold spG_holds at h
  split at h
  · rename_i k x y
    obtain ⟨v, s, hv, hs, hc, hK⟩ := h
    have kt : hld (v 9 s) x y = true → K (some (.int 1)) D L := fun e => hK 1 (Or.inl ⟨e, rfl⟩)
    have kf : hld (v 9 s) x y = false → K (some (.int 0)) D L := fun e => hK 0 (Or.inr ⟨e, rfl⟩)
    rcases hc with ⟨rfl, rfl⟩ | ⟨rfl, rfl⟩ | ⟨rfl, rfl⟩ | ⟨rfl, rfl⟩
    · obtain ⟨w1, w2, w3, w4⟩ := hs 0 (by decide)
      obtain ⟨o7, o9, o60⟩ := vok_sh hv (show 0 < 4 by decide)
      have d1 : D 41 1 = v 8 0 := w1
      have d2 : D 41 2 = nI (vn v 9 0) := w2.trans o9
      have d3 : D 41 3 = 1 - v 7 0 := w3
      have d4 : ∀ i, i < 60 → D 42 i = v 10 (60 * 0 + i) := w4
      rw [o9] at kt kf
      refine ⟨rfl, am_Wp_bl mfG_holds [] 40 _ _ _ _ _ ?_⟩
      (repeat ((conv => whnf); (first | refine zo0 ?_ | refine zo1 ?_ | refine br_z ?_ | refine br_o ?_ | refine br_zn ?_ | refine br_on ?_ | refine nz2 ?_ | refine nz6 ?_ | refine nz32 ?_ | refine And.intro (by assumption) ?_))); (conv => whnf)
      refine ⟨fun h1 => ?_, fun h1 => ?_⟩
      · have kk := kf (hld_i h1)
        (repeat ((conv => whnf); (first | refine zo0 ?_ | refine zo1 ?_ | refine br_z ?_ | refine br_o ?_ | refine br_zn ?_ | refine br_on ?_ | refine nz2 ?_ | refine nz6 ?_ | refine nz32 ?_ | refine And.intro (by assumption) ?_))); (conv => whnf)
        exact kk
      (repeat ((conv => whnf); (first | refine zo0 ?_ | refine zo1 ?_ | refine br_z ?_ | refine br_o ?_ | refine br_zn ?_ | refine br_on ?_ | refine nz2 ?_ | refine nz6 ?_ | refine nz32 ?_ | refine And.intro (by assumption) ?_))); (conv => whnf)
      refine ⟨fun h2 => ?_, fun h2 => ?_⟩
      · have kk := kf (hld_n h2)
        (repeat ((conv => whnf); (first | refine zo0 ?_ | refine zo1 ?_ | refine br_z ?_ | refine br_o ?_ | refine br_zn ?_ | refine br_on ?_ | refine nz2 ?_ | refine nz6 ?_ | refine nz32 ?_ | refine And.intro (by assumption) ?_))); (conv => whnf)
        exact kk
      obtain ⟨a, ha, ea⟩ := nI_of h1
      obtain ⟨c, hc, ec⟩ := nI_of h2
      subst ea ec
      have hh := hld_N (p := vn v 9 0) (by omega) ha hc
      have no : ¬ a + c ≤ vn v 9 0 → hld (nI (vn v 9 0)) (nI a) (nI c) = false := fun q => by
        cases e : hld (nI (vn v 9 0)) (nI a) (nI c) with
        | true => exact absurd (hh.mp e) q
        | false => rfl
      (repeat ((conv => whnf); (first | refine zo0 ?_ | refine zo1 ?_ | refine br_z ?_ | refine br_o ?_ | refine br_zn ?_ | refine br_on ?_ | refine nz2 ?_ | refine nz6 ?_ | refine nz32 ?_ | refine And.intro (by assumption) ?_))); (conv => whnf)
      rw [d2, nI_ltI (by omega) (by omega)]
      refine ⟨fun h3 => ?_, fun h3 => ?_⟩
      · have kk := kf (no (by omega))
        (repeat ((conv => whnf); (first | refine zo0 ?_ | refine zo1 ?_ | refine br_z ?_ | refine br_o ?_ | refine br_zn ?_ | refine br_on ?_ | refine nz2 ?_ | refine nz6 ?_ | refine nz32 ?_ | refine And.intro (by assumption) ?_))); (conv => whnf)
        exact kk
      (repeat ((conv => whnf); (first | refine zo0 ?_ | refine zo1 ?_ | refine br_z ?_ | refine br_o ?_ | refine br_zn ?_ | refine br_on ?_ | refine nz2 ?_ | refine nz6 ?_ | refine nz32 ?_ | refine And.intro (by assumption) ?_))); (conv => whnf)
      rw [d2, pk_sub (by omega), nI_ltI (by omega) (by omega)]
      refine ⟨fun h4 => ?_, fun h4 => ?_⟩
      · have kk := kf (no (by omega))
        (repeat ((conv => whnf); (first | refine zo0 ?_ | refine zo1 ?_ | refine br_z ?_ | refine br_o ?_ | refine br_zn ?_ | refine br_on ?_ | refine nz2 ?_ | refine nz6 ?_ | refine nz32 ?_ | refine And.intro (by assumption) ?_))); (conv => whnf)
        exact kk
      · have kk := kt (hh.mpr (by omega))
        (repeat ((conv => whnf); (first | refine zo0 ?_ | refine zo1 ?_ | refine br_z ?_ | refine br_o ?_ | refine br_zn ?_ | refine br_on ?_ | refine nz2 ?_ | refine nz6 ?_ | refine nz32 ?_ | refine And.intro (by assumption) ?_))); (conv => whnf)
        exact kk
    · obtain ⟨w1, w2, w3, w4⟩ := hs 1 (by decide)
      obtain ⟨o7, o9, o60⟩ := vok_sh hv (show 1 < 4 by decide)
      have d1 : D 43 1 = v 8 1 := w1
      have d2 : D 43 2 = nI (vn v 9 1) := w2.trans o9
      have d3 : D 43 3 = 1 - v 7 1 := w3
      have d4 : ∀ i, i < 60 → D 44 i = v 10 (60 * 1 + i) := w4
      rw [o9] at kt kf
      refine ⟨rfl, am_Wp_bl mfG_holds [] 40 _ _ _ _ _ ?_⟩
      (repeat ((conv => whnf); (first | refine zo0 ?_ | refine zo1 ?_ | refine br_z ?_ | refine br_o ?_ | refine br_zn ?_ | refine br_on ?_ | refine nz2 ?_ | refine nz6 ?_ | refine nz32 ?_ | refine And.intro (by assumption) ?_))); (conv => whnf)
      refine ⟨fun h1 => ?_, fun h1 => ?_⟩
      · have kk := kf (hld_i h1)
        (repeat ((conv => whnf); (first | refine zo0 ?_ | refine zo1 ?_ | refine br_z ?_ | refine br_o ?_ | refine br_zn ?_ | refine br_on ?_ | refine nz2 ?_ | refine nz6 ?_ | refine nz32 ?_ | refine And.intro (by assumption) ?_))); (conv => whnf)
        exact kk
      (repeat ((conv => whnf); (first | refine zo0 ?_ | refine zo1 ?_ | refine br_z ?_ | refine br_o ?_ | refine br_zn ?_ | refine br_on ?_ | refine nz2 ?_ | refine nz6 ?_ | refine nz32 ?_ | refine And.intro (by assumption) ?_))); (conv => whnf)
      refine ⟨fun h2 => ?_, fun h2 => ?_⟩
      · have kk := kf (hld_n h2)
        (repeat ((conv => whnf); (first | refine zo0 ?_ | refine zo1 ?_ | refine br_z ?_ | refine br_o ?_ | refine br_zn ?_ | refine br_on ?_ | refine nz2 ?_ | refine nz6 ?_ | refine nz32 ?_ | refine And.intro (by assumption) ?_))); (conv => whnf)
        exact kk
      obtain ⟨a, ha, ea⟩ := nI_of h1
      obtain ⟨c, hc, ec⟩ := nI_of h2
      subst ea ec
      have hh := hld_N (p := vn v 9 1) (by omega) ha hc
      have no : ¬ a + c ≤ vn v 9 1 → hld (nI (vn v 9 1)) (nI a) (nI c) = false := fun q => by
        cases e : hld (nI (vn v 9 1)) (nI a) (nI c) with
        | true => exact absurd (hh.mp e) q
        | false => rfl
      (repeat ((conv => whnf); (first | refine zo0 ?_ | refine zo1 ?_ | refine br_z ?_ | refine br_o ?_ | refine br_zn ?_ | refine br_on ?_ | refine nz2 ?_ | refine nz6 ?_ | refine nz32 ?_ | refine And.intro (by assumption) ?_))); (conv => whnf)
      rw [d2, nI_ltI (by omega) (by omega)]
      refine ⟨fun h3 => ?_, fun h3 => ?_⟩
      · have kk := kf (no (by omega))
        (repeat ((conv => whnf); (first | refine zo0 ?_ | refine zo1 ?_ | refine br_z ?_ | refine br_o ?_ | refine br_zn ?_ | refine br_on ?_ | refine nz2 ?_ | refine nz6 ?_ | refine nz32 ?_ | refine And.intro (by assumption) ?_))); (conv => whnf)
        exact kk
      (repeat ((conv => whnf); (first | refine zo0 ?_ | refine zo1 ?_ | refine br_z ?_ | refine br_o ?_ | refine br_zn ?_ | refine br_on ?_ | refine nz2 ?_ | refine nz6 ?_ | refine nz32 ?_ | refine And.intro (by assumption) ?_))); (conv => whnf)
      rw [d2, pk_sub (by omega), nI_ltI (by omega) (by omega)]
      refine ⟨fun h4 => ?_, fun h4 => ?_⟩
      · have kk := kf (no (by omega))
        (repeat ((conv => whnf); (first | refine zo0 ?_ | refine zo1 ?_ | refine br_z ?_ | refine br_o ?_ | refine br_zn ?_ | refine br_on ?_ | refine nz2 ?_ | refine nz6 ?_ | refine nz32 ?_ | refine And.intro (by assumption) ?_))); (conv => whnf)
        exact kk
      · have kk := kt (hh.mpr (by omega))
        (repeat ((conv => whnf); (first | refine zo0 ?_ | refine zo1 ?_ | refine br_z ?_ | refine br_o ?_ | refine br_zn ?_ | refine br_on ?_ | refine nz2 ?_ | refine nz6 ?_ | refine nz32 ?_ | refine And.intro (by assumption) ?_))); (conv => whnf)
        exact kk
    · obtain ⟨w1, w2, w3, w4⟩ := hs 2 (by decide)
      obtain ⟨o7, o9, o60⟩ := vok_sh hv (show 2 < 4 by decide)
      have d1 : D 45 1 = v 8 2 := w1
      have d2 : D 45 2 = nI (vn v 9 2) := w2.trans o9
      have d3 : D 45 3 = 1 - v 7 2 := w3
      have d4 : ∀ i, i < 60 → D 46 i = v 10 (60 * 2 + i) := w4
      rw [o9] at kt kf
      refine ⟨rfl, am_Wp_bl mfG_holds [] 40 _ _ _ _ _ ?_⟩
      (repeat ((conv => whnf); (first | refine zo0 ?_ | refine zo1 ?_ | refine br_z ?_ | refine br_o ?_ | refine br_zn ?_ | refine br_on ?_ | refine nz2 ?_ | refine nz6 ?_ | refine nz32 ?_ | refine And.intro (by assumption) ?_))); (conv => whnf)
      refine ⟨fun h1 => ?_, fun h1 => ?_⟩
      · have kk := kf (hld_i h1)
        (repeat ((conv => whnf); (first | refine zo0 ?_ | refine zo1 ?_ | refine br_z ?_ | refine br_o ?_ | refine br_zn ?_ | refine br_on ?_ | refine nz2 ?_ | refine nz6 ?_ | refine nz32 ?_ | refine And.intro (by assumption) ?_))); (conv => whnf)
        exact kk
      (repeat ((conv => whnf); (first | refine zo0 ?_ | refine zo1 ?_ | refine br_z ?_ | refine br_o ?_ | refine br_zn ?_ | refine br_on ?_ | refine nz2 ?_ | refine nz6 ?_ | refine nz32 ?_ | refine And.intro (by assumption) ?_))); (conv => whnf)
      refine ⟨fun h2 => ?_, fun h2 => ?_⟩
      · have kk := kf (hld_n h2)
        (repeat ((conv => whnf); (first | refine zo0 ?_ | refine zo1 ?_ | refine br_z ?_ | refine br_o ?_ | refine br_zn ?_ | refine br_on ?_ | refine nz2 ?_ | refine nz6 ?_ | refine nz32 ?_ | refine And.intro (by assumption) ?_))); (conv => whnf)
        exact kk
      obtain ⟨a, ha, ea⟩ := nI_of h1
      obtain ⟨c, hc, ec⟩ := nI_of h2
      subst ea ec
      have hh := hld_N (p := vn v 9 2) (by omega) ha hc
      have no : ¬ a + c ≤ vn v 9 2 → hld (nI (vn v 9 2)) (nI a) (nI c) = false := fun q => by
        cases e : hld (nI (vn v 9 2)) (nI a) (nI c) with
        | true => exact absurd (hh.mp e) q
        | false => rfl
      (repeat ((conv => whnf); (first | refine zo0 ?_ | refine zo1 ?_ | refine br_z ?_ | refine br_o ?_ | refine br_zn ?_ | refine br_on ?_ | refine nz2 ?_ | refine nz6 ?_ | refine nz32 ?_ | refine And.intro (by assumption) ?_))); (conv => whnf)
      rw [d2, nI_ltI (by omega) (by omega)]
      refine ⟨fun h3 => ?_, fun h3 => ?_⟩
      · have kk := kf (no (by omega))
        (repeat ((conv => whnf); (first | refine zo0 ?_ | refine zo1 ?_ | refine br_z ?_ | refine br_o ?_ | refine br_zn ?_ | refine br_on ?_ | refine nz2 ?_ | refine nz6 ?_ | refine nz32 ?_ | refine And.intro (by assumption) ?_))); (conv => whnf)
        exact kk
      (repeat ((conv => whnf); (first | refine zo0 ?_ | refine zo1 ?_ | refine br_z ?_ | refine br_o ?_ | refine br_zn ?_ | refine br_on ?_ | refine nz2 ?_ | refine nz6 ?_ | refine nz32 ?_ | refine And.intro (by assumption) ?_))); (conv => whnf)
      rw [d2, pk_sub (by omega), nI_ltI (by omega) (by omega)]
      refine ⟨fun h4 => ?_, fun h4 => ?_⟩
      · have kk := kf (no (by omega))
        (repeat ((conv => whnf); (first | refine zo0 ?_ | refine zo1 ?_ | refine br_z ?_ | refine br_o ?_ | refine br_zn ?_ | refine br_on ?_ | refine nz2 ?_ | refine nz6 ?_ | refine nz32 ?_ | refine And.intro (by assumption) ?_))); (conv => whnf)
        exact kk
      · have kk := kt (hh.mpr (by omega))
        (repeat ((conv => whnf); (first | refine zo0 ?_ | refine zo1 ?_ | refine br_z ?_ | refine br_o ?_ | refine br_zn ?_ | refine br_on ?_ | refine nz2 ?_ | refine nz6 ?_ | refine nz32 ?_ | refine And.intro (by assumption) ?_))); (conv => whnf)
        exact kk
    · obtain ⟨w1, w2, w3, w4⟩ := hs 3 (by decide)
      obtain ⟨o7, o9, o60⟩ := vok_sh hv (show 3 < 4 by decide)
      have d1 : D 47 1 = v 8 3 := w1
      have d2 : D 47 2 = nI (vn v 9 3) := w2.trans o9
      have d3 : D 47 3 = 1 - v 7 3 := w3
      have d4 : ∀ i, i < 60 → D 48 i = v 10 (60 * 3 + i) := w4
      rw [o9] at kt kf
      refine ⟨rfl, am_Wp_bl mfG_holds [] 40 _ _ _ _ _ ?_⟩
      (repeat ((conv => whnf); (first | refine zo0 ?_ | refine zo1 ?_ | refine br_z ?_ | refine br_o ?_ | refine br_zn ?_ | refine br_on ?_ | refine nz2 ?_ | refine nz6 ?_ | refine nz32 ?_ | refine And.intro (by assumption) ?_))); (conv => whnf)
      refine ⟨fun h1 => ?_, fun h1 => ?_⟩
      · have kk := kf (hld_i h1)
        (repeat ((conv => whnf); (first | refine zo0 ?_ | refine zo1 ?_ | refine br_z ?_ | refine br_o ?_ | refine br_zn ?_ | refine br_on ?_ | refine nz2 ?_ | refine nz6 ?_ | refine nz32 ?_ | refine And.intro (by assumption) ?_))); (conv => whnf)
        exact kk
      (repeat ((conv => whnf); (first | refine zo0 ?_ | refine zo1 ?_ | refine br_z ?_ | refine br_o ?_ | refine br_zn ?_ | refine br_on ?_ | refine nz2 ?_ | refine nz6 ?_ | refine nz32 ?_ | refine And.intro (by assumption) ?_))); (conv => whnf)
      refine ⟨fun h2 => ?_, fun h2 => ?_⟩
      · have kk := kf (hld_n h2)
        (repeat ((conv => whnf); (first | refine zo0 ?_ | refine zo1 ?_ | refine br_z ?_ | refine br_o ?_ | refine br_zn ?_ | refine br_on ?_ | refine nz2 ?_ | refine nz6 ?_ | refine nz32 ?_ | refine And.intro (by assumption) ?_))); (conv => whnf)
        exact kk
      obtain ⟨a, ha, ea⟩ := nI_of h1
      obtain ⟨c, hc, ec⟩ := nI_of h2
      subst ea ec
      have hh := hld_N (p := vn v 9 3) (by omega) ha hc
      have no : ¬ a + c ≤ vn v 9 3 → hld (nI (vn v 9 3)) (nI a) (nI c) = false := fun q => by
        cases e : hld (nI (vn v 9 3)) (nI a) (nI c) with
        | true => exact absurd (hh.mp e) q
        | false => rfl
      (repeat ((conv => whnf); (first | refine zo0 ?_ | refine zo1 ?_ | refine br_z ?_ | refine br_o ?_ | refine br_zn ?_ | refine br_on ?_ | refine nz2 ?_ | refine nz6 ?_ | refine nz32 ?_ | refine And.intro (by assumption) ?_))); (conv => whnf)
      rw [d2, nI_ltI (by omega) (by omega)]
      refine ⟨fun h3 => ?_, fun h3 => ?_⟩
      · have kk := kf (no (by omega))
        (repeat ((conv => whnf); (first | refine zo0 ?_ | refine zo1 ?_ | refine br_z ?_ | refine br_o ?_ | refine br_zn ?_ | refine br_on ?_ | refine nz2 ?_ | refine nz6 ?_ | refine nz32 ?_ | refine And.intro (by assumption) ?_))); (conv => whnf)
        exact kk
      (repeat ((conv => whnf); (first | refine zo0 ?_ | refine zo1 ?_ | refine br_z ?_ | refine br_o ?_ | refine br_zn ?_ | refine br_on ?_ | refine nz2 ?_ | refine nz6 ?_ | refine nz32 ?_ | refine And.intro (by assumption) ?_))); (conv => whnf)
      rw [d2, pk_sub (by omega), nI_ltI (by omega) (by omega)]
      refine ⟨fun h4 => ?_, fun h4 => ?_⟩
      · have kk := kf (no (by omega))
        (repeat ((conv => whnf); (first | refine zo0 ?_ | refine zo1 ?_ | refine br_z ?_ | refine br_o ?_ | refine br_zn ?_ | refine br_on ?_ | refine nz2 ?_ | refine nz6 ?_ | refine nz32 ?_ | refine And.intro (by assumption) ?_))); (conv => whnf)
        exact kk
      · have kk := kt (hh.mpr (by omega))
        (repeat ((conv => whnf); (first | refine zo0 ?_ | refine zo1 ?_ | refine br_z ?_ | refine br_o ?_ | refine br_zn ?_ | refine br_on ?_ | refine nz2 ?_ | refine nz6 ?_ | refine nz32 ?_ | refine And.intro (by assumption) ?_))); (conv => whnf)
        exact kk
  · exact absurd h id
theorem clG_holds (l : Launch) : ∀ (a : Nat) (ins : Instr) (b dd : Nat), csG_holds[a]? = some (ins, b, dd) → am_Call l yG_holds.cls 0 ins b dd (fnG_holds a) := by
  intro a ins b dd h
  match a, h with
  | k + 0, h => simp [csG_holds] at h
theorem okG_holds (l : Launch) : am_Ok l yG_holds prog_7_method_6_code 3 (some .boolean) 0 spG_holds := am_ok_of (by decide +kernel) flG_ok kiG_ok klG_ok ckG_holds (clG_holds l) wpG_holds
def fnX_sheetOf : Nat → am_Sp := fun _ => am_no
theorem mfX_sheetOf : ∀ a, am_mono (fnX_sheetOf a) := fun _ => am_no_mono
def spX_sheetOf : am_Sp := fun as D L K => match as with
  | [.ref 0, .int x] => (x = 0 → K (some (.ref 41)) D L) ∧ (x = 1 → K (some (.ref 43)) D L) ∧ (x = 2 → K (some (.ref 45)) D L) ∧ (x = 3 → K (some (.ref 47)) D L) ∧ (¬ (0 ≤ x ∧ x ≤ 3) → K (some .null) D L)
  | _ => False
theorem moX_sheetOf : am_mono spX_sheetOf := by
  intro as D L K K' hK h
  unfold spX_sheetOf at h ⊢
  split at h
  · exact ⟨fun q => hK _ _ _ (h.1 q), fun q => hK _ _ _ (h.2.1 q), fun q => hK _ _ _ (h.2.2.1 q), fun q => hK _ _ _ (h.2.2.2.1 q), fun q => hK _ _ _ (h.2.2.2.2 q)⟩
  · exact h
theorem wpX_sheetOf : ∀ (as : List Value) (D : am_D) (L : am_L) (K : am_K), spX_sheetOf as D L K → am_fit 2 as = true ∧ am_Wp false 0 cdX_sheetOf fnX_sheetOf K 0 (am_lo 2 as) [] D L := by
  intro as D L K h
  unfold spX_sheetOf at h
  split at h
  · rename_i x
    obtain ⟨k0, k1, k2, k3, k4⟩ := h
    refine ⟨rfl, am_Wp_bl mfX_sheetOf [] 40 _ _ _ _ _ ?_⟩
    (repeat ((conv => whnf); (first | refine zo0 ?_ | refine zo1 ?_ | refine br_z ?_ | refine br_o ?_ | refine br_zn ?_ | refine br_on ?_ | refine nz2 ?_ | refine nz6 ?_ | refine nz32 ?_ | refine And.intro (by assumption) ?_))); (conv => whnf)
    refine ⟨fun h1 => ?_, fun h1 => ?_⟩
    · have kk := k4 (rn0 h1)
      (repeat ((conv => whnf); (first | refine zo0 ?_ | refine zo1 ?_ | refine br_z ?_ | refine br_o ?_ | refine br_zn ?_ | refine br_on ?_ | refine nz2 ?_ | refine nz6 ?_ | refine nz32 ?_ | refine And.intro (by assumption) ?_))); (conv => whnf)
      exact kk
    (repeat ((conv => whnf); (first | refine zo0 ?_ | refine zo1 ?_ | refine br_z ?_ | refine br_o ?_ | refine br_zn ?_ | refine br_on ?_ | refine nz2 ?_ | refine nz6 ?_ | refine nz32 ?_ | refine And.intro (by assumption) ?_))); (conv => whnf)
    refine ⟨fun h2 => ?_, fun h2 => ?_⟩
    rotate_left
    · have kk := k4 (rn3 3 (Int32.not_lt.mp h2))
      (repeat ((conv => whnf); (first | refine zo0 ?_ | refine zo1 ?_ | refine br_z ?_ | refine br_o ?_ | refine br_zn ?_ | refine br_on ?_ | refine nz2 ?_ | refine nz6 ?_ | refine nz32 ?_ | refine And.intro (by assumption) ?_))); (conv => whnf)
      exact kk
    obtain ⟨a, ha, ea⟩ := rg_nI (n := 3) (by decide) (show 0 ≤ x ∧ x ≤ 3 from rq3 3 h1 (fun q => Int32.not_lt.mpr q h2))
    have in4 : vp_in x 4 := by rw [ea]; exact vp_in_nI (by omega) (by decide)
    (repeat ((conv => whnf); (first | refine zo0 ?_ | refine zo1 ?_ | refine br_z ?_ | refine br_o ?_ | refine br_zn ?_ | refine br_on ?_ | refine nz2 ?_ | refine nz6 ?_ | refine nz32 ?_ | refine And.intro (by assumption) ?_))); (conv => whnf)
    rcases (show a = 0 ∨ a = 1 ∨ a = 2 ∨ a = 3 by omega) with rfl | rfl | rfl | rfl
    · have ex : x = 0 := ea.trans (by decide +kernel)
      have kk := k0 ex
      rw [ex, show am_rho 40 (Int32.toNatClampNeg 0) = 41 by decide +kernel]
      exact kk
    · have ex : x = 1 := ea.trans (by decide +kernel)
      have kk := k1 ex
      rw [ex, show am_rho 40 (Int32.toNatClampNeg 1) = 43 by decide +kernel]
      exact kk
    · have ex : x = 2 := ea.trans (by decide +kernel)
      have kk := k2 ex
      rw [ex, show am_rho 40 (Int32.toNatClampNeg 2) = 45 by decide +kernel]
      exact kk
    · have ex : x = 3 := ea.trans (by decide +kernel)
      have kk := k3 ex
      rw [ex, show am_rho 40 (Int32.toNatClampNeg 3) = 47 by decide +kernel]
      exact kk
  · exact absurd h id
theorem clX_sheetOf (l : Launch) : ∀ (a : Nat) (ins : Instr) (b dd : Nat), csX_sheetOf[a]? = some (ins, b, dd) → am_Call l yX_sheetOf.cls 0 ins b dd (fnX_sheetOf a) := by
  intro a ins b dd h
  match a, h with
  | k + 0, h => simp [csX_sheetOf] at h
theorem okX_sheetOf (l : Launch) : am_Ok l yX_sheetOf prog_1_method_45_code 2 (some (.object "MilkHorse$Sheet")) 0 spX_sheetOf := am_ok_of (by decide +kernel) flX_ok kiX_ok klX_ok ckX_sheetOf (clX_sheetOf l) wpX_sheetOf
def fnX_found : Nat → am_Sp := fun _ => am_no
theorem mfX_found : ∀ a, am_mono (fnX_found a) := fun _ => am_no_mono
def spX_found : am_Sp := am_ini cdX_found fnX_found 10 2
theorem moX_found : am_mono spX_found := am_ini_mono mfX_found
theorem wpX_found : ∀ (as : List Value) (D : am_D) (L : am_L) (K : am_K), spX_found as D L K → am_fit 2 as = true ∧ am_Wp false 0 cdX_found fnX_found K 0 (am_lo 2 as) [] D L := am_ini_Wp mfX_found
theorem clX_found (l : Launch) : ∀ (a : Nat) (ins : Instr) (b dd : Nat), csX_found[a]? = some (ins, b, dd) → am_Call l yX_found.cls 0 ins b dd (fnX_found a) := by
  intro a ins b dd h
  match a, h with
  | k + 0, h => simp [csX_found] at h
theorem okX_found (l : Launch) : am_Ok l yX_found prog_1_method_46_code 2 (some .int) 0 spX_found := am_ok_of (by decide +kernel) flX_ok kiX_ok klX_ok ckX_found (clX_found l) wpX_found
def fnX_isForm : Nat → am_Sp := fun _ => am_no
theorem mfX_isForm : ∀ a, am_mono (fnX_isForm a) := fun _ => am_no_mono
def spX_isForm : am_Sp := am_ini cdX_isForm fnX_isForm 12 1
theorem moX_isForm : am_mono spX_isForm := am_ini_mono mfX_isForm
theorem wpX_isForm : ∀ (as : List Value) (D : am_D) (L : am_L) (K : am_K), spX_isForm as D L K → am_fit 1 as = true ∧ am_Wp false 0 cdX_isForm fnX_isForm K 0 (am_lo 1 as) [] D L := am_ini_Wp mfX_isForm
theorem clX_isForm (l : Launch) : ∀ (a : Nat) (ins : Instr) (b dd : Nat), csX_isForm[a]? = some (ins, b, dd) → am_Call l yX_isForm.cls 0 ins b dd (fnX_isForm a) := by
  intro a ins b dd h
  match a, h with
  | k + 0, h => simp [csX_isForm] at h
theorem okX_isForm (l : Launch) : am_Ok l yX_isForm prog_1_method_43_code 1 (some .boolean) 0 spX_isForm := am_ok_of (by decide +kernel) flX_ok kiX_ok klX_ok ckX_isForm (clX_isForm l) wpX_isForm
def fnX_sheet : Nat → am_Sp := fun a => match a with
  | 0 => spX_sheetOf
  | 1 => spX_isForm
  | 2 => spX_found
  | 3 => spG_begin
  | _ => am_no
theorem mfX_sheet : ∀ a, am_mono (fnX_sheet a) := fun a => match a with
  | 0 => moX_sheetOf
  | 1 => moX_isForm
  | 2 => moX_found
  | 3 => moG_begin
  | _ + 4 => am_no_mono
def spX_sheet : am_Sp := fun as D L K => match as with
  | [.ref 0, .int x, .int y, .int z] => ∃ v : vs_T, vok v ∧ ix D v ∧ ∀ (D' : am_D) (L' : am_L), fc D D' → ix D' (gSheet v x y z) → K (some (.int (qSheet v x y z))) D' L'
  | _ => False
theorem moX_sheet : am_mono spX_sheet := by
  intro as D L K K' hK h
  unfold spX_sheet at h ⊢
  split at h
  · obtain ⟨z0, z1, z2, hz⟩ := h
    exact ⟨z0, z1, z2, fun D' L' q1 q2 => hK _ _ _ (hz D' L' q1 q2)⟩
  · exact h
theorem wpX_sheet : ∀ (as : List Value) (D : am_D) (L : am_L) (K : am_K), spX_sheet as D L K → am_fit 5 as = true ∧ am_Wp false 0 cdX_sheet fnX_sheet K 0 (am_lo 5 as) [] D L := by
  intro as D L K h
  unfold spX_sheet at h
  split at h
  · rename_i x y z
    obtain ⟨v, hv, hi, hK⟩ := h
    have kb : ¬ ((0 ≤ x ∧ x ≤ 3) ∧ (0 ≤ y ∧ y ≤ 2) ∧ z ≤ 60) → K (some (.int (-2))) D L := fun q => by
      have k := hK D L fc_rf
      unfold qSheet gSheet at k
      by_cases c0 : (0 ≤ x ∧ x ≤ 3)
      · by_cases c1 : (0 ≤ y ∧ y ≤ 2)
        · by_cases c2 : z ≤ 60
          · exact absurd ⟨c0, c1, c2⟩ q
          · rw [if_pos c0, if_pos c0, if_pos c1, if_pos c1, if_neg c2, if_neg c2] at k
            exact k hi
        · rw [if_pos c0, if_pos c0, if_neg c1, if_neg c1] at k
          exact k hi
      · rw [if_neg c0, if_neg c0] at k
        exact k hi
    have hs := hi.1.2.2.2.2.2
    refine ⟨rfl, am_Wp_bl mfX_sheet [] 60 _ _ _ _ _ ?_⟩
    (repeat ((conv => whnf); (first | refine zo0 ?_ | refine zo1 ?_ | refine br_z ?_ | refine br_o ?_ | refine br_zn ?_ | refine br_on ?_ | refine nz2 ?_ | refine nz6 ?_ | refine nz32 ?_ | refine And.intro (by assumption) ?_))); (conv => whnf)
    refine ⟨fun ex => ?_, fun ex => ?_, fun ex => ?_, fun ex => ?_, fun ex => ?_⟩
    · subst ex
      have hx : (0 : Int32) ≤ 0 ∧ (0 : Int32) ≤ 3 := by decide
      obtain ⟨w1, w2, w3, w4⟩ := hs 0 (by decide)
      obtain ⟨o7, o9, o60⟩ := vok_sh hv (show 0 < 4 by decide)
      have d1 : D 41 1 = v 8 0 := w1
      have d2 : D 41 2 = nI (vn v 9 0) := w2.trans o9
      have d3 : D 41 3 = 1 - v 7 0 := w3
      have d4 : ∀ i, i < 60 → D 42 i = v 10 (60 * 0 + i) := w4
      (repeat ((conv => whnf); (first | refine zo0 ?_ | refine zo1 ?_ | refine br_z ?_ | refine br_o ?_ | refine br_zn ?_ | refine br_on ?_ | refine nz2 ?_ | refine nz6 ?_ | refine nz32 ?_ | refine And.intro (by assumption) ?_))); (conv => whnf)
      refine ⟨fun h1 => ?_, fun h1 => ?_⟩
      · have kk := kb (fun q => rn0 h1 q.2.1)
        (repeat ((conv => whnf); (first | refine zo0 ?_ | refine zo1 ?_ | refine br_z ?_ | refine br_o ?_ | refine br_zn ?_ | refine br_on ?_ | refine nz2 ?_ | refine nz6 ?_ | refine nz32 ?_ | refine And.intro (by assumption) ?_))); (conv => whnf)
        exact kk
      (repeat ((conv => whnf); (first | refine zo0 ?_ | refine zo1 ?_ | refine br_z ?_ | refine br_o ?_ | refine br_zn ?_ | refine br_on ?_ | refine nz2 ?_ | refine nz6 ?_ | refine nz32 ?_ | refine And.intro (by assumption) ?_))); (conv => whnf)
      refine ⟨fun h2 => ?_, fun h2 => ?_⟩
      · have kk := kb (fun q => rn3 2 h2 rfl (by omega) q.2.1)
        (repeat ((conv => whnf); (first | refine zo0 ?_ | refine zo1 ?_ | refine br_z ?_ | refine br_o ?_ | refine br_zn ?_ | refine br_on ?_ | refine nz2 ?_ | refine nz6 ?_ | refine nz32 ?_ | refine And.intro (by assumption) ?_))); (conv => whnf)
        exact kk
      have hy : 0 ≤ y ∧ y ≤ 2 := rq3 2 h1 h2
      (repeat ((conv => whnf); (first | refine zo0 ?_ | refine zo1 ?_ | refine br_z ?_ | refine br_o ?_ | refine br_zn ?_ | refine br_on ?_ | refine nz2 ?_ | refine nz6 ?_ | refine nz32 ?_ | refine And.intro (by assumption) ?_))); (conv => whnf)
      refine ⟨fun h3 => ?_, fun h3 => ?_⟩
      rotate_left
      · have kk := kb (fun q => h3 q.2.2)
        (repeat ((conv => whnf); (first | refine zo0 ?_ | refine zo1 ?_ | refine br_z ?_ | refine br_o ?_ | refine br_zn ?_ | refine br_on ?_ | refine nz2 ?_ | refine nz6 ?_ | refine nz32 ?_ | refine And.intro (by assumption) ?_))); (conv => whnf)
        exact kk
      (repeat ((conv => whnf); (first | refine zo0 ?_ | refine zo1 ?_ | refine br_z ?_ | refine br_o ?_ | refine br_zn ?_ | refine br_on ?_ | refine nz2 ?_ | refine nz6 ?_ | refine nz32 ?_ | refine And.intro (by assumption) ?_))); (conv => whnf)
      refine ⟨fun h4 => ?_, fun h4 => ?_⟩
      rotate_left
      · have h5 := Int32.not_le.mp h4
        have kk := hK (am_up D 0 16 5) L (fc_up (by decide) fc_rf)
        unfold qSheet gSheet at kk
        rw [if_pos hx, if_pos hx, if_pos hy, if_pos hy, if_pos h3, if_pos h3, if_pos h5, if_pos h5] at kk
        (repeat ((conv => whnf); (first | refine zo0 ?_ | refine zo1 ?_ | refine br_z ?_ | refine br_o ?_ | refine br_zn ?_ | refine br_on ?_ | refine nz2 ?_ | refine nz6 ?_ | refine nz32 ?_ | refine And.intro (by assumption) ?_))); (conv => whnf)
        exact kk (ix_find hi)
      have h5 : ¬ z < 0 := Int32.not_lt.mpr h4
      (repeat ((conv => whnf); (first | refine zo0 ?_ | refine zo1 ?_ | refine br_z ?_ | refine br_o ?_ | refine br_zn ?_ | refine br_on ?_ | refine nz2 ?_ | refine nz6 ?_ | refine nz32 ?_ | refine And.intro (by assumption) ?_))); (conv => whnf)
      refine ⟨rfl, by decide +kernel, ?_⟩
      (repeat ((conv => whnf); (first | refine zo0 ?_ | refine zo1 ?_ | refine br_z ?_ | refine br_o ?_ | refine br_zn ?_ | refine br_on ?_ | refine nz2 ?_ | refine nz6 ?_ | refine nz32 ?_ | refine And.intro (by assumption) ?_))); (conv => whnf)
      have kk := hK (am_up (am_up (am_up (am_upA D 42 (fun j => if j < am_len 42 then 0 else D 42 j)) 41 1 y) 41 2 z) 41 3 0) L (fun q hq => by rw [am_up_ne (by omega), am_up_ne (by omega), am_up_ne (by omega)]; simp only [am_upA]; rw [if_neg (by omega)])
      unfold qSheet gSheet at kk
      rw [if_pos hx, if_pos hx, if_pos hy, if_pos hy, if_pos h3, if_pos h3, if_neg h5, if_neg h5, cN_0] at kk
      refine kk (ix_sh hi (fun q hq => by rw [am_up_ne (by omega), am_up_ne (by omega), am_up_ne (by omega)]; simp only [am_upA]; rw [if_neg (by omega)]) (ish_mk (s := 0) hs (fun q h1 h2 => ?_) (fun q hq => ⟨?_, ?_, ?_, fun j hj => ?_⟩) ⟨?_, ?_, ?_, fun j hj => ?_⟩) (fun c hc => ?_))
      · rw [am_up_ne (by omega), am_up_ne (by omega), am_up_ne (by omega)]; simp only [am_upA]; rw [if_neg (by omega)]
      · unfold gBegin; rw [if_neg (by decide), am_up_ne (by decide), am_up_ne (by decide), ap, if_pos rfl, if_neg hq]
      · unfold gBegin; rw [if_neg (by decide), am_up_ne (by decide), ap, if_pos rfl, if_neg hq, am_up_ne (by decide)]
      · unfold gBegin; rw [if_neg (by decide), ap, if_pos rfl, if_neg hq, am_up_ne (by decide), am_up_ne (by decide)]
      · unfold gBegin; rw [if_pos rfl, if_neg (by omega)]
      · unfold gBegin; simp [ap]
      · unfold gBegin; simp [ap]
      · unfold gBegin; simp [ap]
      · have hj' : j < am_len 42 := hj
        unfold gBegin
        rw [am_up_ne (by decide), am_up_ne (by decide), am_up_ne (by decide), if_pos rfl, if_pos (by omega)]
        show (if j < am_len 42 then 0 else D 42 j) = 0
        exact if_pos hj'
      · unfold gBegin
        rw [if_neg (by omega), am_up_ne (by omega), am_up_ne (by omega), am_up_ne (by omega)]
    · subst ex
      have hx : (0 : Int32) ≤ 1 ∧ (1 : Int32) ≤ 3 := by decide
      obtain ⟨w1, w2, w3, w4⟩ := hs 1 (by decide)
      obtain ⟨o7, o9, o60⟩ := vok_sh hv (show 1 < 4 by decide)
      have d1 : D 43 1 = v 8 1 := w1
      have d2 : D 43 2 = nI (vn v 9 1) := w2.trans o9
      have d3 : D 43 3 = 1 - v 7 1 := w3
      have d4 : ∀ i, i < 60 → D 44 i = v 10 (60 * 1 + i) := w4
      (repeat ((conv => whnf); (first | refine zo0 ?_ | refine zo1 ?_ | refine br_z ?_ | refine br_o ?_ | refine br_zn ?_ | refine br_on ?_ | refine nz2 ?_ | refine nz6 ?_ | refine nz32 ?_ | refine And.intro (by assumption) ?_))); (conv => whnf)
      refine ⟨fun h1 => ?_, fun h1 => ?_⟩
      · have kk := kb (fun q => rn0 h1 q.2.1)
        (repeat ((conv => whnf); (first | refine zo0 ?_ | refine zo1 ?_ | refine br_z ?_ | refine br_o ?_ | refine br_zn ?_ | refine br_on ?_ | refine nz2 ?_ | refine nz6 ?_ | refine nz32 ?_ | refine And.intro (by assumption) ?_))); (conv => whnf)
        exact kk
      (repeat ((conv => whnf); (first | refine zo0 ?_ | refine zo1 ?_ | refine br_z ?_ | refine br_o ?_ | refine br_zn ?_ | refine br_on ?_ | refine nz2 ?_ | refine nz6 ?_ | refine nz32 ?_ | refine And.intro (by assumption) ?_))); (conv => whnf)
      refine ⟨fun h2 => ?_, fun h2 => ?_⟩
      · have kk := kb (fun q => rn3 2 h2 rfl (by omega) q.2.1)
        (repeat ((conv => whnf); (first | refine zo0 ?_ | refine zo1 ?_ | refine br_z ?_ | refine br_o ?_ | refine br_zn ?_ | refine br_on ?_ | refine nz2 ?_ | refine nz6 ?_ | refine nz32 ?_ | refine And.intro (by assumption) ?_))); (conv => whnf)
        exact kk
      have hy : 0 ≤ y ∧ y ≤ 2 := rq3 2 h1 h2
      (repeat ((conv => whnf); (first | refine zo0 ?_ | refine zo1 ?_ | refine br_z ?_ | refine br_o ?_ | refine br_zn ?_ | refine br_on ?_ | refine nz2 ?_ | refine nz6 ?_ | refine nz32 ?_ | refine And.intro (by assumption) ?_))); (conv => whnf)
      refine ⟨fun h3 => ?_, fun h3 => ?_⟩
      rotate_left
      · have kk := kb (fun q => h3 q.2.2)
        (repeat ((conv => whnf); (first | refine zo0 ?_ | refine zo1 ?_ | refine br_z ?_ | refine br_o ?_ | refine br_zn ?_ | refine br_on ?_ | refine nz2 ?_ | refine nz6 ?_ | refine nz32 ?_ | refine And.intro (by assumption) ?_))); (conv => whnf)
        exact kk
      (repeat ((conv => whnf); (first | refine zo0 ?_ | refine zo1 ?_ | refine br_z ?_ | refine br_o ?_ | refine br_zn ?_ | refine br_on ?_ | refine nz2 ?_ | refine nz6 ?_ | refine nz32 ?_ | refine And.intro (by assumption) ?_))); (conv => whnf)
      refine ⟨fun h4 => ?_, fun h4 => ?_⟩
      rotate_left
      · have h5 := Int32.not_le.mp h4
        have kk := hK (am_up D 0 16 5) L (fc_up (by decide) fc_rf)
        unfold qSheet gSheet at kk
        rw [if_pos hx, if_pos hx, if_pos hy, if_pos hy, if_pos h3, if_pos h3, if_pos h5, if_pos h5] at kk
        (repeat ((conv => whnf); (first | refine zo0 ?_ | refine zo1 ?_ | refine br_z ?_ | refine br_o ?_ | refine br_zn ?_ | refine br_on ?_ | refine nz2 ?_ | refine nz6 ?_ | refine nz32 ?_ | refine And.intro (by assumption) ?_))); (conv => whnf)
        exact kk (ix_find hi)
      have h5 : ¬ z < 0 := Int32.not_lt.mpr h4
      (repeat ((conv => whnf); (first | refine zo0 ?_ | refine zo1 ?_ | refine br_z ?_ | refine br_o ?_ | refine br_zn ?_ | refine br_on ?_ | refine nz2 ?_ | refine nz6 ?_ | refine nz32 ?_ | refine And.intro (by assumption) ?_))); (conv => whnf)
      refine ⟨rfl, by decide +kernel, ?_⟩
      (repeat ((conv => whnf); (first | refine zo0 ?_ | refine zo1 ?_ | refine br_z ?_ | refine br_o ?_ | refine br_zn ?_ | refine br_on ?_ | refine nz2 ?_ | refine nz6 ?_ | refine nz32 ?_ | refine And.intro (by assumption) ?_))); (conv => whnf)
      have kk := hK (am_up (am_up (am_up (am_upA D 44 (fun j => if j < am_len 44 then 0 else D 44 j)) 43 1 y) 43 2 z) 43 3 0) L (fun q hq => by rw [am_up_ne (by omega), am_up_ne (by omega), am_up_ne (by omega)]; simp only [am_upA]; rw [if_neg (by omega)])
      unfold qSheet gSheet at kk
      rw [if_pos hx, if_pos hx, if_pos hy, if_pos hy, if_pos h3, if_pos h3, if_neg h5, if_neg h5, cN_1] at kk
      refine kk (ix_sh hi (fun q hq => by rw [am_up_ne (by omega), am_up_ne (by omega), am_up_ne (by omega)]; simp only [am_upA]; rw [if_neg (by omega)]) (ish_mk (s := 1) hs (fun q h1 h2 => ?_) (fun q hq => ⟨?_, ?_, ?_, fun j hj => ?_⟩) ⟨?_, ?_, ?_, fun j hj => ?_⟩) (fun c hc => ?_))
      · rw [am_up_ne (by omega), am_up_ne (by omega), am_up_ne (by omega)]; simp only [am_upA]; rw [if_neg (by omega)]
      · unfold gBegin; rw [if_neg (by decide), am_up_ne (by decide), am_up_ne (by decide), ap, if_pos rfl, if_neg hq]
      · unfold gBegin; rw [if_neg (by decide), am_up_ne (by decide), ap, if_pos rfl, if_neg hq, am_up_ne (by decide)]
      · unfold gBegin; rw [if_neg (by decide), ap, if_pos rfl, if_neg hq, am_up_ne (by decide), am_up_ne (by decide)]
      · unfold gBegin; rw [if_pos rfl, if_neg (by omega)]
      · unfold gBegin; simp [ap]
      · unfold gBegin; simp [ap]
      · unfold gBegin; simp [ap]
      · have hj' : j < am_len 44 := hj
        unfold gBegin
        rw [am_up_ne (by decide), am_up_ne (by decide), am_up_ne (by decide), if_pos rfl, if_pos (by omega)]
        show (if j < am_len 44 then 0 else D 44 j) = 0
        exact if_pos hj'
      · unfold gBegin
        rw [if_neg (by omega), am_up_ne (by omega), am_up_ne (by omega), am_up_ne (by omega)]
    · subst ex
      have hx : (0 : Int32) ≤ 2 ∧ (2 : Int32) ≤ 3 := by decide
      obtain ⟨w1, w2, w3, w4⟩ := hs 2 (by decide)
      obtain ⟨o7, o9, o60⟩ := vok_sh hv (show 2 < 4 by decide)
      have d1 : D 45 1 = v 8 2 := w1
      have d2 : D 45 2 = nI (vn v 9 2) := w2.trans o9
      have d3 : D 45 3 = 1 - v 7 2 := w3
      have d4 : ∀ i, i < 60 → D 46 i = v 10 (60 * 2 + i) := w4
      (repeat ((conv => whnf); (first | refine zo0 ?_ | refine zo1 ?_ | refine br_z ?_ | refine br_o ?_ | refine br_zn ?_ | refine br_on ?_ | refine nz2 ?_ | refine nz6 ?_ | refine nz32 ?_ | refine And.intro (by assumption) ?_))); (conv => whnf)
      refine ⟨fun h1 => ?_, fun h1 => ?_⟩
      · have kk := kb (fun q => rn0 h1 q.2.1)
        (repeat ((conv => whnf); (first | refine zo0 ?_ | refine zo1 ?_ | refine br_z ?_ | refine br_o ?_ | refine br_zn ?_ | refine br_on ?_ | refine nz2 ?_ | refine nz6 ?_ | refine nz32 ?_ | refine And.intro (by assumption) ?_))); (conv => whnf)
        exact kk
      (repeat ((conv => whnf); (first | refine zo0 ?_ | refine zo1 ?_ | refine br_z ?_ | refine br_o ?_ | refine br_zn ?_ | refine br_on ?_ | refine nz2 ?_ | refine nz6 ?_ | refine nz32 ?_ | refine And.intro (by assumption) ?_))); (conv => whnf)
      refine ⟨fun h2 => ?_, fun h2 => ?_⟩
      · have kk := kb (fun q => rn3 2 h2 rfl (by omega) q.2.1)
        (repeat ((conv => whnf); (first | refine zo0 ?_ | refine zo1 ?_ | refine br_z ?_ | refine br_o ?_ | refine br_zn ?_ | refine br_on ?_ | refine nz2 ?_ | refine nz6 ?_ | refine nz32 ?_ | refine And.intro (by assumption) ?_))); (conv => whnf)
        exact kk
      have hy : 0 ≤ y ∧ y ≤ 2 := rq3 2 h1 h2
      (repeat ((conv => whnf); (first | refine zo0 ?_ | refine zo1 ?_ | refine br_z ?_ | refine br_o ?_ | refine br_zn ?_ | refine br_on ?_ | refine nz2 ?_ | refine nz6 ?_ | refine nz32 ?_ | refine And.intro (by assumption) ?_))); (conv => whnf)
      refine ⟨fun h3 => ?_, fun h3 => ?_⟩
      rotate_left
      · have kk := kb (fun q => h3 q.2.2)
        (repeat ((conv => whnf); (first | refine zo0 ?_ | refine zo1 ?_ | refine br_z ?_ | refine br_o ?_ | refine br_zn ?_ | refine br_on ?_ | refine nz2 ?_ | refine nz6 ?_ | refine nz32 ?_ | refine And.intro (by assumption) ?_))); (conv => whnf)
        exact kk
      (repeat ((conv => whnf); (first | refine zo0 ?_ | refine zo1 ?_ | refine br_z ?_ | refine br_o ?_ | refine br_zn ?_ | refine br_on ?_ | refine nz2 ?_ | refine nz6 ?_ | refine nz32 ?_ | refine And.intro (by assumption) ?_))); (conv => whnf)
      refine ⟨fun h4 => ?_, fun h4 => ?_⟩
      rotate_left
      · have h5 := Int32.not_le.mp h4
        have kk := hK (am_up D 0 16 5) L (fc_up (by decide) fc_rf)
        unfold qSheet gSheet at kk
        rw [if_pos hx, if_pos hx, if_pos hy, if_pos hy, if_pos h3, if_pos h3, if_pos h5, if_pos h5] at kk
        (repeat ((conv => whnf); (first | refine zo0 ?_ | refine zo1 ?_ | refine br_z ?_ | refine br_o ?_ | refine br_zn ?_ | refine br_on ?_ | refine nz2 ?_ | refine nz6 ?_ | refine nz32 ?_ | refine And.intro (by assumption) ?_))); (conv => whnf)
        exact kk (ix_find hi)
      have h5 : ¬ z < 0 := Int32.not_lt.mpr h4
      (repeat ((conv => whnf); (first | refine zo0 ?_ | refine zo1 ?_ | refine br_z ?_ | refine br_o ?_ | refine br_zn ?_ | refine br_on ?_ | refine nz2 ?_ | refine nz6 ?_ | refine nz32 ?_ | refine And.intro (by assumption) ?_))); (conv => whnf)
      refine ⟨rfl, by decide +kernel, ?_⟩
      (repeat ((conv => whnf); (first | refine zo0 ?_ | refine zo1 ?_ | refine br_z ?_ | refine br_o ?_ | refine br_zn ?_ | refine br_on ?_ | refine nz2 ?_ | refine nz6 ?_ | refine nz32 ?_ | refine And.intro (by assumption) ?_))); (conv => whnf)
      have kk := hK (am_up (am_up (am_up (am_upA D 46 (fun j => if j < am_len 46 then 0 else D 46 j)) 45 1 y) 45 2 z) 45 3 0) L (fun q hq => by rw [am_up_ne (by omega), am_up_ne (by omega), am_up_ne (by omega)]; simp only [am_upA]; rw [if_neg (by omega)])
      unfold qSheet gSheet at kk
      rw [if_pos hx, if_pos hx, if_pos hy, if_pos hy, if_pos h3, if_pos h3, if_neg h5, if_neg h5, cN_2] at kk
      refine kk (ix_sh hi (fun q hq => by rw [am_up_ne (by omega), am_up_ne (by omega), am_up_ne (by omega)]; simp only [am_upA]; rw [if_neg (by omega)]) (ish_mk (s := 2) hs (fun q h1 h2 => ?_) (fun q hq => ⟨?_, ?_, ?_, fun j hj => ?_⟩) ⟨?_, ?_, ?_, fun j hj => ?_⟩) (fun c hc => ?_))
      · rw [am_up_ne (by omega), am_up_ne (by omega), am_up_ne (by omega)]; simp only [am_upA]; rw [if_neg (by omega)]
      · unfold gBegin; rw [if_neg (by decide), am_up_ne (by decide), am_up_ne (by decide), ap, if_pos rfl, if_neg hq]
      · unfold gBegin; rw [if_neg (by decide), am_up_ne (by decide), ap, if_pos rfl, if_neg hq, am_up_ne (by decide)]
      · unfold gBegin; rw [if_neg (by decide), ap, if_pos rfl, if_neg hq, am_up_ne (by decide), am_up_ne (by decide)]
      · unfold gBegin; rw [if_pos rfl, if_neg (by omega)]
      · unfold gBegin; simp [ap]
      · unfold gBegin; simp [ap]
      · unfold gBegin; simp [ap]
      · have hj' : j < am_len 46 := hj
        unfold gBegin
        rw [am_up_ne (by decide), am_up_ne (by decide), am_up_ne (by decide), if_pos rfl, if_pos (by omega)]
        show (if j < am_len 46 then 0 else D 46 j) = 0
        exact if_pos hj'
      · unfold gBegin
        rw [if_neg (by omega), am_up_ne (by omega), am_up_ne (by omega), am_up_ne (by omega)]
    · subst ex
      have hx : (0 : Int32) ≤ 3 ∧ (3 : Int32) ≤ 3 := by decide
      obtain ⟨w1, w2, w3, w4⟩ := hs 3 (by decide)
      obtain ⟨o7, o9, o60⟩ := vok_sh hv (show 3 < 4 by decide)
      have d1 : D 47 1 = v 8 3 := w1
      have d2 : D 47 2 = nI (vn v 9 3) := w2.trans o9
      have d3 : D 47 3 = 1 - v 7 3 := w3
      have d4 : ∀ i, i < 60 → D 48 i = v 10 (60 * 3 + i) := w4
      (repeat ((conv => whnf); (first | refine zo0 ?_ | refine zo1 ?_ | refine br_z ?_ | refine br_o ?_ | refine br_zn ?_ | refine br_on ?_ | refine nz2 ?_ | refine nz6 ?_ | refine nz32 ?_ | refine And.intro (by assumption) ?_))); (conv => whnf)
      refine ⟨fun h1 => ?_, fun h1 => ?_⟩
      · have kk := kb (fun q => rn0 h1 q.2.1)
        (repeat ((conv => whnf); (first | refine zo0 ?_ | refine zo1 ?_ | refine br_z ?_ | refine br_o ?_ | refine br_zn ?_ | refine br_on ?_ | refine nz2 ?_ | refine nz6 ?_ | refine nz32 ?_ | refine And.intro (by assumption) ?_))); (conv => whnf)
        exact kk
      (repeat ((conv => whnf); (first | refine zo0 ?_ | refine zo1 ?_ | refine br_z ?_ | refine br_o ?_ | refine br_zn ?_ | refine br_on ?_ | refine nz2 ?_ | refine nz6 ?_ | refine nz32 ?_ | refine And.intro (by assumption) ?_))); (conv => whnf)
      refine ⟨fun h2 => ?_, fun h2 => ?_⟩
      · have kk := kb (fun q => rn3 2 h2 rfl (by omega) q.2.1)
        (repeat ((conv => whnf); (first | refine zo0 ?_ | refine zo1 ?_ | refine br_z ?_ | refine br_o ?_ | refine br_zn ?_ | refine br_on ?_ | refine nz2 ?_ | refine nz6 ?_ | refine nz32 ?_ | refine And.intro (by assumption) ?_))); (conv => whnf)
        exact kk
      have hy : 0 ≤ y ∧ y ≤ 2 := rq3 2 h1 h2
      (repeat ((conv => whnf); (first | refine zo0 ?_ | refine zo1 ?_ | refine br_z ?_ | refine br_o ?_ | refine br_zn ?_ | refine br_on ?_ | refine nz2 ?_ | refine nz6 ?_ | refine nz32 ?_ | refine And.intro (by assumption) ?_))); (conv => whnf)
      refine ⟨fun h3 => ?_, fun h3 => ?_⟩
      rotate_left
      · have kk := kb (fun q => h3 q.2.2)
        (repeat ((conv => whnf); (first | refine zo0 ?_ | refine zo1 ?_ | refine br_z ?_ | refine br_o ?_ | refine br_zn ?_ | refine br_on ?_ | refine nz2 ?_ | refine nz6 ?_ | refine nz32 ?_ | refine And.intro (by assumption) ?_))); (conv => whnf)
        exact kk
      (repeat ((conv => whnf); (first | refine zo0 ?_ | refine zo1 ?_ | refine br_z ?_ | refine br_o ?_ | refine br_zn ?_ | refine br_on ?_ | refine nz2 ?_ | refine nz6 ?_ | refine nz32 ?_ | refine And.intro (by assumption) ?_))); (conv => whnf)
      refine ⟨fun h4 => ?_, fun h4 => ?_⟩
      rotate_left
      · have h5 := Int32.not_le.mp h4
        have kk := hK (am_up D 0 16 5) L (fc_up (by decide) fc_rf)
        unfold qSheet gSheet at kk
        rw [if_pos hx, if_pos hx, if_pos hy, if_pos hy, if_pos h3, if_pos h3, if_pos h5, if_pos h5] at kk
        (repeat ((conv => whnf); (first | refine zo0 ?_ | refine zo1 ?_ | refine br_z ?_ | refine br_o ?_ | refine br_zn ?_ | refine br_on ?_ | refine nz2 ?_ | refine nz6 ?_ | refine nz32 ?_ | refine And.intro (by assumption) ?_))); (conv => whnf)
        exact kk (ix_find hi)
      have h5 : ¬ z < 0 := Int32.not_lt.mpr h4
      (repeat ((conv => whnf); (first | refine zo0 ?_ | refine zo1 ?_ | refine br_z ?_ | refine br_o ?_ | refine br_zn ?_ | refine br_on ?_ | refine nz2 ?_ | refine nz6 ?_ | refine nz32 ?_ | refine And.intro (by assumption) ?_))); (conv => whnf)
      refine ⟨rfl, by decide +kernel, ?_⟩
      (repeat ((conv => whnf); (first | refine zo0 ?_ | refine zo1 ?_ | refine br_z ?_ | refine br_o ?_ | refine br_zn ?_ | refine br_on ?_ | refine nz2 ?_ | refine nz6 ?_ | refine nz32 ?_ | refine And.intro (by assumption) ?_))); (conv => whnf)
      have kk := hK (am_up (am_up (am_up (am_upA D 48 (fun j => if j < am_len 48 then 0 else D 48 j)) 47 1 y) 47 2 z) 47 3 0) L (fun q hq => by rw [am_up_ne (by omega), am_up_ne (by omega), am_up_ne (by omega)]; simp only [am_upA]; rw [if_neg (by omega)])
      unfold qSheet gSheet at kk
      rw [if_pos hx, if_pos hx, if_pos hy, if_pos hy, if_pos h3, if_pos h3, if_neg h5, if_neg h5, cN_3] at kk
      refine kk (ix_sh hi (fun q hq => by rw [am_up_ne (by omega), am_up_ne (by omega), am_up_ne (by omega)]; simp only [am_upA]; rw [if_neg (by omega)]) (ish_mk (s := 3) hs (fun q h1 h2 => ?_) (fun q hq => ⟨?_, ?_, ?_, fun j hj => ?_⟩) ⟨?_, ?_, ?_, fun j hj => ?_⟩) (fun c hc => ?_))
      · rw [am_up_ne (by omega), am_up_ne (by omega), am_up_ne (by omega)]; simp only [am_upA]; rw [if_neg (by omega)]
      · unfold gBegin; rw [if_neg (by decide), am_up_ne (by decide), am_up_ne (by decide), ap, if_pos rfl, if_neg hq]
      · unfold gBegin; rw [if_neg (by decide), am_up_ne (by decide), ap, if_pos rfl, if_neg hq, am_up_ne (by decide)]
      · unfold gBegin; rw [if_neg (by decide), ap, if_pos rfl, if_neg hq, am_up_ne (by decide), am_up_ne (by decide)]
      · unfold gBegin; rw [if_pos rfl, if_neg (by omega)]
      · unfold gBegin; simp [ap]
      · unfold gBegin; simp [ap]
      · unfold gBegin; simp [ap]
      · have hj' : j < am_len 48 := hj
        unfold gBegin
        rw [am_up_ne (by decide), am_up_ne (by decide), am_up_ne (by decide), if_pos rfl, if_pos (by omega)]
        show (if j < am_len 48 then 0 else D 48 j) = 0
        exact if_pos hj'
      · unfold gBegin
        rw [if_neg (by omega), am_up_ne (by omega), am_up_ne (by omega), am_up_ne (by omega)]
    · have kk := kb (fun q => ex q.1)
      (repeat ((conv => whnf); (first | refine zo0 ?_ | refine zo1 ?_ | refine br_z ?_ | refine br_o ?_ | refine br_zn ?_ | refine br_on ?_ | refine nz2 ?_ | refine nz6 ?_ | refine nz32 ?_ | refine And.intro (by assumption) ?_))); (conv => whnf)
      exact kk
  · exact absurd h id
theorem clX_sheet (l : Launch) : ∀ (a : Nat) (ins : Instr) (b dd : Nat), csX_sheet[a]? = some (ins, b, dd) → am_Call l yX_sheet.cls 2 ins b dd (fnX_sheet a) := by
  intro a ins b dd h
  match a, h with
  | 0, h => cases h; exact am_callV (T := F_10) (N := 17) (okX_sheetOf l) wcX_sheetOf (am_m2 (i := 238) rfl rfl) wiX_sheetOf wsX_sheetOf inX rfl (by decide) (by decide +kernel) (by decide) (by decide)
  | 1, h => cases h; exact am_callS (okX_isForm l) wcX_isForm (am_m4 (i := 9) rfl rfl) wtX_isForm inX (by decide +kernel) (by decide) (by decide)
  | 2, h => cases h; exact am_callV (T := F_10) (N := 17) (okX_found l) wcX_found (am_m3 (i := 2) rfl rfl) wiX_found wsX_found inX rfl (by decide) (by decide +kernel) (by decide) (by decide)
  | 3, h => cases h; exact am_callV (T := F_5) (N := 4) (okG_begin l) wcG_begin (am_m4 (i := 12) rfl rfl) wiG_begin wsG_begin inG rfl (by decide) (by decide +kernel) (by decide) (by decide)
  | k + 4, h => simp [csX_sheet] at h
theorem okX_sheet (l : Launch) : am_Ok l yX_sheet prog_1_method_30_code 5 (some .int) 2 spX_sheet := am_ok_of (by decide +kernel) flX_ok kiX_ok klX_ok ckX_sheet (clX_sheet l) wpX_sheet
def fnX_lose : Nat → am_Sp := fun a => match a with
  | 0 => spX_sheetOf
  | 1 => spX_found
  | _ => am_no
theorem mfX_lose : ∀ a, am_mono (fnX_lose a) := fun a => match a with
  | 0 => moX_sheetOf
  | 1 => moX_found
  | _ + 2 => am_no_mono
def spX_lose : am_Sp := fun as D L K => match as with
  | [.ref 0, .int x] => ∃ v : vs_T, vok v ∧ ix D v ∧ ∀ (D' : am_D) (L' : am_L), fc D D' → ix D' (gLose v x) → K (some (.int (qLose v x))) D' L'
  | _ => False
theorem moX_lose : am_mono spX_lose := by
  intro as D L K K' hK h
  unfold spX_lose at h ⊢
  split at h
  · obtain ⟨z0, z1, z2, hz⟩ := h
    exact ⟨z0, z1, z2, fun D' L' q1 q2 => hK _ _ _ (hz D' L' q1 q2)⟩
  · exact h
theorem wpX_lose : ∀ (as : List Value) (D : am_D) (L : am_L) (K : am_K), spX_lose as D L K → am_fit 3 as = true ∧ am_Wp false 0 cdX_lose fnX_lose K 0 (am_lo 3 as) [] D L := by
  intro as D L K h
  unfold spX_lose at h
  split at h
  · rename_i x
    obtain ⟨v, hv, hi, hK⟩ := h
    have kb : ¬ ((0 ≤ x ∧ x ≤ 3)) → K (some (.int (-2))) D L := fun q => by
      have k := hK D L fc_rf
      unfold qLose gLose at k
      by_cases c0 : (0 ≤ x ∧ x ≤ 3)
      · exact absurd c0 q
      · rw [if_neg c0, if_neg c0] at k
        exact k hi
    have hs := hi.1.2.2.2.2.2
    refine ⟨rfl, am_Wp_bl mfX_lose [] 60 _ _ _ _ _ ?_⟩
    (repeat ((conv => whnf); (first | refine zo0 ?_ | refine zo1 ?_ | refine br_z ?_ | refine br_o ?_ | refine br_zn ?_ | refine br_on ?_ | refine nz2 ?_ | refine nz6 ?_ | refine nz32 ?_ | refine And.intro (by assumption) ?_))); (conv => whnf)
    refine ⟨fun ex => ?_, fun ex => ?_, fun ex => ?_, fun ex => ?_, fun ex => ?_⟩
    · subst ex
      have hx : (0 : Int32) ≤ 0 ∧ (0 : Int32) ≤ 3 := by decide
      obtain ⟨w1, w2, w3, w4⟩ := hs 0 (by decide)
      obtain ⟨o7, o9, o60⟩ := vok_sh hv (show 0 < 4 by decide)
      have d1 : D 41 1 = v 8 0 := w1
      have d2 : D 41 2 = nI (vn v 9 0) := w2.trans o9
      have d3 : D 41 3 = 1 - v 7 0 := w3
      have d4 : ∀ i, i < 60 → D 42 i = v 10 (60 * 0 + i) := w4
      (repeat ((conv => whnf); (first | refine zo0 ?_ | refine zo1 ?_ | refine br_z ?_ | refine br_o ?_ | refine br_zn ?_ | refine br_on ?_ | refine nz2 ?_ | refine nz6 ?_ | refine nz32 ?_ | refine And.intro (by assumption) ?_))); (conv => whnf)
      rw [d3]
      refine ⟨fun h1 => ?_, fun h1 => ?_⟩
      rotate_left
      · have e7 : v 7 0 = 0 := by
          rcases o7 with q | q
          · exact q
          · rw [q] at h1; exact absurd (by decide) h1
        have kk := hK (am_up D 0 16 1) L (fc_up (by decide) fc_rf)
        unfold qLose gLose at kk
        rw [if_pos hx, if_pos hx, cN_0, if_pos e7, if_pos e7] at kk
        (repeat ((conv => whnf); (first | refine zo0 ?_ | refine zo1 ?_ | refine br_z ?_ | refine br_o ?_ | refine br_zn ?_ | refine br_on ?_ | refine nz2 ?_ | refine nz6 ?_ | refine nz32 ?_ | refine And.intro (by assumption) ?_))); (conv => whnf)
        exact kk (ix_find hi)
      have e7 : ¬ v 7 0 = 0 := fun q => by rw [q] at h1; exact absurd h1 (by decide)
      have kk := hK (am_up D 41 3 1) L (fc_up (by decide) fc_rf)
      unfold qLose gLose at kk
      rw [if_pos hx, if_pos hx, cN_0, if_neg e7, if_neg e7] at kk
      have kk := kk (ix_sh hi (fun q hq => am_up_ne (by omega)) (ish_mk (s := 0) hs (fun q h1 h2 => am_up_ne (by omega)) (fun q hq => ⟨by rw [ap, if_pos rfl, if_neg hq], by rw [am_up_ne (by decide)], by rw [am_up_ne (by decide)], fun j hj => by rw [am_up_ne (by decide)]⟩) ⟨by rw [am_up_ne (show 8 ≠ 7 by decide)]; exact w1, by rw [am_up_ne (show 9 ≠ 7 by decide)]; exact w2, by simp [ap], fun j hj => by rw [am_up_ne (show 10 ≠ 7 by decide)]; exact w4 j hj⟩) (fun c hc => am_up_ne (by omega)))
      rw [o9, ← d2] at kk
      (repeat ((conv => whnf); (first | refine zo0 ?_ | refine zo1 ?_ | refine br_z ?_ | refine br_o ?_ | refine br_zn ?_ | refine br_on ?_ | refine nz2 ?_ | refine nz6 ?_ | refine nz32 ?_ | refine And.intro (by assumption) ?_))); (conv => whnf)
      exact kk
    · subst ex
      have hx : (0 : Int32) ≤ 1 ∧ (1 : Int32) ≤ 3 := by decide
      obtain ⟨w1, w2, w3, w4⟩ := hs 1 (by decide)
      obtain ⟨o7, o9, o60⟩ := vok_sh hv (show 1 < 4 by decide)
      have d1 : D 43 1 = v 8 1 := w1
      have d2 : D 43 2 = nI (vn v 9 1) := w2.trans o9
      have d3 : D 43 3 = 1 - v 7 1 := w3
      have d4 : ∀ i, i < 60 → D 44 i = v 10 (60 * 1 + i) := w4
      (repeat ((conv => whnf); (first | refine zo0 ?_ | refine zo1 ?_ | refine br_z ?_ | refine br_o ?_ | refine br_zn ?_ | refine br_on ?_ | refine nz2 ?_ | refine nz6 ?_ | refine nz32 ?_ | refine And.intro (by assumption) ?_))); (conv => whnf)
      rw [d3]
      refine ⟨fun h1 => ?_, fun h1 => ?_⟩
      rotate_left
      · have e7 : v 7 1 = 0 := by
          rcases o7 with q | q
          · exact q
          · rw [q] at h1; exact absurd (by decide) h1
        have kk := hK (am_up D 0 16 1) L (fc_up (by decide) fc_rf)
        unfold qLose gLose at kk
        rw [if_pos hx, if_pos hx, cN_1, if_pos e7, if_pos e7] at kk
        (repeat ((conv => whnf); (first | refine zo0 ?_ | refine zo1 ?_ | refine br_z ?_ | refine br_o ?_ | refine br_zn ?_ | refine br_on ?_ | refine nz2 ?_ | refine nz6 ?_ | refine nz32 ?_ | refine And.intro (by assumption) ?_))); (conv => whnf)
        exact kk (ix_find hi)
      have e7 : ¬ v 7 1 = 0 := fun q => by rw [q] at h1; exact absurd h1 (by decide)
      have kk := hK (am_up D 43 3 1) L (fc_up (by decide) fc_rf)
      unfold qLose gLose at kk
      rw [if_pos hx, if_pos hx, cN_1, if_neg e7, if_neg e7] at kk
      have kk := kk (ix_sh hi (fun q hq => am_up_ne (by omega)) (ish_mk (s := 1) hs (fun q h1 h2 => am_up_ne (by omega)) (fun q hq => ⟨by rw [ap, if_pos rfl, if_neg hq], by rw [am_up_ne (by decide)], by rw [am_up_ne (by decide)], fun j hj => by rw [am_up_ne (by decide)]⟩) ⟨by rw [am_up_ne (show 8 ≠ 7 by decide)]; exact w1, by rw [am_up_ne (show 9 ≠ 7 by decide)]; exact w2, by simp [ap], fun j hj => by rw [am_up_ne (show 10 ≠ 7 by decide)]; exact w4 j hj⟩) (fun c hc => am_up_ne (by omega)))
      rw [o9, ← d2] at kk
      (repeat ((conv => whnf); (first | refine zo0 ?_ | refine zo1 ?_ | refine br_z ?_ | refine br_o ?_ | refine br_zn ?_ | refine br_on ?_ | refine nz2 ?_ | refine nz6 ?_ | refine nz32 ?_ | refine And.intro (by assumption) ?_))); (conv => whnf)
      exact kk
    · subst ex
      have hx : (0 : Int32) ≤ 2 ∧ (2 : Int32) ≤ 3 := by decide
      obtain ⟨w1, w2, w3, w4⟩ := hs 2 (by decide)
      obtain ⟨o7, o9, o60⟩ := vok_sh hv (show 2 < 4 by decide)
      have d1 : D 45 1 = v 8 2 := w1
      have d2 : D 45 2 = nI (vn v 9 2) := w2.trans o9
      have d3 : D 45 3 = 1 - v 7 2 := w3
      have d4 : ∀ i, i < 60 → D 46 i = v 10 (60 * 2 + i) := w4
      (repeat ((conv => whnf); (first | refine zo0 ?_ | refine zo1 ?_ | refine br_z ?_ | refine br_o ?_ | refine br_zn ?_ | refine br_on ?_ | refine nz2 ?_ | refine nz6 ?_ | refine nz32 ?_ | refine And.intro (by assumption) ?_))); (conv => whnf)
      rw [d3]
      refine ⟨fun h1 => ?_, fun h1 => ?_⟩
      rotate_left
      · have e7 : v 7 2 = 0 := by
          rcases o7 with q | q
          · exact q
          · rw [q] at h1; exact absurd (by decide) h1
        have kk := hK (am_up D 0 16 1) L (fc_up (by decide) fc_rf)
        unfold qLose gLose at kk
        rw [if_pos hx, if_pos hx, cN_2, if_pos e7, if_pos e7] at kk
        (repeat ((conv => whnf); (first | refine zo0 ?_ | refine zo1 ?_ | refine br_z ?_ | refine br_o ?_ | refine br_zn ?_ | refine br_on ?_ | refine nz2 ?_ | refine nz6 ?_ | refine nz32 ?_ | refine And.intro (by assumption) ?_))); (conv => whnf)
        exact kk (ix_find hi)
      have e7 : ¬ v 7 2 = 0 := fun q => by rw [q] at h1; exact absurd h1 (by decide)
      have kk := hK (am_up D 45 3 1) L (fc_up (by decide) fc_rf)
      unfold qLose gLose at kk
      rw [if_pos hx, if_pos hx, cN_2, if_neg e7, if_neg e7] at kk
      have kk := kk (ix_sh hi (fun q hq => am_up_ne (by omega)) (ish_mk (s := 2) hs (fun q h1 h2 => am_up_ne (by omega)) (fun q hq => ⟨by rw [ap, if_pos rfl, if_neg hq], by rw [am_up_ne (by decide)], by rw [am_up_ne (by decide)], fun j hj => by rw [am_up_ne (by decide)]⟩) ⟨by rw [am_up_ne (show 8 ≠ 7 by decide)]; exact w1, by rw [am_up_ne (show 9 ≠ 7 by decide)]; exact w2, by simp [ap], fun j hj => by rw [am_up_ne (show 10 ≠ 7 by decide)]; exact w4 j hj⟩) (fun c hc => am_up_ne (by omega)))
      rw [o9, ← d2] at kk
      (repeat ((conv => whnf); (first | refine zo0 ?_ | refine zo1 ?_ | refine br_z ?_ | refine br_o ?_ | refine br_zn ?_ | refine br_on ?_ | refine nz2 ?_ | refine nz6 ?_ | refine nz32 ?_ | refine And.intro (by assumption) ?_))); (conv => whnf)
      exact kk
    · subst ex
      have hx : (0 : Int32) ≤ 3 ∧ (3 : Int32) ≤ 3 := by decide
      obtain ⟨w1, w2, w3, w4⟩ := hs 3 (by decide)
      obtain ⟨o7, o9, o60⟩ := vok_sh hv (show 3 < 4 by decide)
      have d1 : D 47 1 = v 8 3 := w1
      have d2 : D 47 2 = nI (vn v 9 3) := w2.trans o9
      have d3 : D 47 3 = 1 - v 7 3 := w3
      have d4 : ∀ i, i < 60 → D 48 i = v 10 (60 * 3 + i) := w4
      (repeat ((conv => whnf); (first | refine zo0 ?_ | refine zo1 ?_ | refine br_z ?_ | refine br_o ?_ | refine br_zn ?_ | refine br_on ?_ | refine nz2 ?_ | refine nz6 ?_ | refine nz32 ?_ | refine And.intro (by assumption) ?_))); (conv => whnf)
      rw [d3]
      refine ⟨fun h1 => ?_, fun h1 => ?_⟩
      rotate_left
      · have e7 : v 7 3 = 0 := by
          rcases o7 with q | q
          · exact q
          · rw [q] at h1; exact absurd (by decide) h1
        have kk := hK (am_up D 0 16 1) L (fc_up (by decide) fc_rf)
        unfold qLose gLose at kk
        rw [if_pos hx, if_pos hx, cN_3, if_pos e7, if_pos e7] at kk
        (repeat ((conv => whnf); (first | refine zo0 ?_ | refine zo1 ?_ | refine br_z ?_ | refine br_o ?_ | refine br_zn ?_ | refine br_on ?_ | refine nz2 ?_ | refine nz6 ?_ | refine nz32 ?_ | refine And.intro (by assumption) ?_))); (conv => whnf)
        exact kk (ix_find hi)
      have e7 : ¬ v 7 3 = 0 := fun q => by rw [q] at h1; exact absurd h1 (by decide)
      have kk := hK (am_up D 47 3 1) L (fc_up (by decide) fc_rf)
      unfold qLose gLose at kk
      rw [if_pos hx, if_pos hx, cN_3, if_neg e7, if_neg e7] at kk
      have kk := kk (ix_sh hi (fun q hq => am_up_ne (by omega)) (ish_mk (s := 3) hs (fun q h1 h2 => am_up_ne (by omega)) (fun q hq => ⟨by rw [ap, if_pos rfl, if_neg hq], by rw [am_up_ne (by decide)], by rw [am_up_ne (by decide)], fun j hj => by rw [am_up_ne (by decide)]⟩) ⟨by rw [am_up_ne (show 8 ≠ 7 by decide)]; exact w1, by rw [am_up_ne (show 9 ≠ 7 by decide)]; exact w2, by simp [ap], fun j hj => by rw [am_up_ne (show 10 ≠ 7 by decide)]; exact w4 j hj⟩) (fun c hc => am_up_ne (by omega)))
      rw [o9, ← d2] at kk
      (repeat ((conv => whnf); (first | refine zo0 ?_ | refine zo1 ?_ | refine br_z ?_ | refine br_o ?_ | refine br_zn ?_ | refine br_on ?_ | refine nz2 ?_ | refine nz6 ?_ | refine nz32 ?_ | refine And.intro (by assumption) ?_))); (conv => whnf)
      exact kk
    · (repeat ((conv => whnf); (first | refine zo0 ?_ | refine zo1 ?_ | refine br_z ?_ | refine br_o ?_ | refine br_zn ?_ | refine br_on ?_ | refine nz2 ?_ | refine nz6 ?_ | refine nz32 ?_ | refine And.intro (by assumption) ?_))); (conv => whnf)
      exact kb ex
  · exact absurd h id
theorem clX_lose (l : Launch) : ∀ (a : Nat) (ins : Instr) (b dd : Nat), csX_lose[a]? = some (ins, b, dd) → am_Call l yX_lose.cls 1 ins b dd (fnX_lose a) := by
  intro a ins b dd h
  match a, h with
  | 0, h => cases h; exact am_callV (T := F_10) (N := 17) (okX_sheetOf l) wcX_sheetOf (am_m2 (i := 238) rfl rfl) wiX_sheetOf wsX_sheetOf inX rfl (by decide) (by decide +kernel) (by decide) (by decide)
  | 1, h => cases h; exact am_callV (T := F_10) (N := 17) (okX_found l) wcX_found (am_m3 (i := 2) rfl rfl) wiX_found wsX_found inX rfl (by decide) (by decide +kernel) (by decide) (by decide)
  | k + 2, h => simp [csX_lose] at h
theorem okX_lose (l : Launch) : am_Ok l yX_lose prog_1_method_31_code 3 (some .int) 1 spX_lose := am_ok_of (by decide +kernel) flX_ok kiX_ok klX_ok ckX_lose (clX_lose l) wpX_lose
