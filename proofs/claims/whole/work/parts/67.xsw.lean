def fnX_learnSwaps : Nat → am_Sp := fun a => match a with
  | 0 => spO_clear
  | 1 => spP_take
  | 2 => spJ_min
  | 3 => spW_run
  | 4 => spW_howManyLack
  | 5 => spO_offer
  | _ => am_no
theorem mfX_learnSwaps : ∀ a, am_mono (fnX_learnSwaps a) := fun a => match a with
  | 0 => moO_clear
  | 1 => moP_take
  | 2 => moJ_min
  | 3 => moW_run
  | 4 => moW_howManyLack
  | 5 => moO_offer
  | _ + 6 => am_no_mono
def spX_learnSwaps : am_Sp := fun as D L K => match as with
  | [.ref 0] => ∃ v : vs_T, vok v ∧ ix D v ∧ ∀ D', fc D D' → ix D' v → ocs D' (aSwap v) → K none D' L
  | _ => False
theorem moX_learnSwaps : am_mono spX_learnSwaps := by
  intro as D L K K' hK h
  unfold spX_learnSwaps at h ⊢
  split at h
  · obtain ⟨z0, z1, z2, hz⟩ := h
    exact ⟨z0, z1, z2, fun D' q1 q2 q3 => hK _ _ _ (hz D' q1 q2 q3)⟩
  · exact h
theorem wpX_learnSwaps : ∀ (as : List Value) (D : am_D) (L : am_L) (K : am_K), spX_learnSwaps as D L K → am_fit 4 as = true ∧ am_Wp false 0 cdX_learnSwaps fnX_learnSwaps K 0 (am_lo 4 as) [] D L := by
  intro as D L K h
  unfold spX_learnSwaps at h
  split at h
  · obtain ⟨v, hv, hi, hK⟩ := h
    have hP := vpl_ok hv
    have hE := vev_ok hv
    obtain ⟨hib, ⟨c1, c2, c3, c4, c5, c6⟩, hw⟩ := hi
    have h24 := hP.1
    have hpx := hib.2.1.1
    have hex := ex_ie hib.2.2.1 hv
    have eA : aSwap v = msw (vpl v) (vev v) allp (vpl v 0 0) (vpl v 0 0) := rfl
    have hK' : ∀ D', (∀ k, k < 18 ∨ (26 < k ∧ k ≠ 34) → D' k = D k) → iw D' → ocs D' (aSwap v) → K none D' L := fun D' f w o => by
      have F : ∀ k, 26 < k → k ≠ 34 → D' k = D k := fun k h1 h2 => f k (by omega)
      exact hK D' (fun k hk => f k (by omega)) ⟨ib_fr hib (fun k hk => f k (by omega)), ⟨icd_fr c1 (fun k _ _ => F k (by omega) (by omega)), ich_fr c2 (F _ (by omega) (by omega)), icr_fr c3 (F _ (by omega) (by omega)), Or.inr ⟨o.2.2.2.2, o.1, o.2.1, o.2.2.1, o.2.2.2.1⟩, icp_fr c5 (F _ (by omega) (by omega)), icc_fr c6 (F _ (by omega) (by omega)) (F _ (by omega) (by omega))⟩, w⟩ o
    rw [eA] at hK'
    obtain ⟨P, hPe⟩ : ∃ P, vpl v = P := ⟨_, rfl⟩
    rw [hPe] at hP h24 hpx hK'
    have inner : ∀ (a : Nat) (o : Option (Nat × Nat × Nat)), a < P 0 0 → bok o → (∀ (D' : am_D) (k3 : Option Value), (∀ k, k < 18 ∨ (26 < k ∧ k ≠ 34) → D' k = D k) → px D' 18 P → D' 18 7 = 0 → iw D' → ocs D' (mswI P (vev v) allp a o (P 0 0 - (a + 1))) → am_Wp false 0 cdX_learnSwaps fnX_learnSwaps K 33 [some (.ref 0), some (.int (nI (P 0 0))), some (.int (nI (a + 1))), k3] [] D' L) →
        ∀ (m k : Nat) (D' : am_D), a + 1 + k + m = P 0 0 → (∀ k, k < 18 ∨ (26 < k ∧ k ≠ 34) → D' k = D k) → px D' 18 P → D' 18 7 = 0 → iw D' → ocs D' (mswI P (vev v) allp a o k) → am_Wp false 0 cdX_learnSwaps fnX_learnSwaps K 42 [some (.ref 0), some (.int (nI (P 0 0))), some (.int (nI a)), some (.int (nI (a + 1 + k)))] [] D' L := by
      intro a o ha ho hout m
      induction m with
      | zero =>
        intro k D' hk hf hp h7 hw' hc
        refine am_Wp_bl mfX_learnSwaps [33] 40 _ _ _ _ _ ?_
        (repeat ((conv => whnf); (first | refine zo0 ?_ | refine zo1 ?_ | refine br_z ?_ | refine br_o ?_ | refine br_zn ?_ | refine br_on ?_ | refine nz2 ?_ | refine nz6 ?_ | refine nz32 ?_ | refine And.intro (by assumption) ?_))); (conv => whnf)
        refine ⟨fun h1 => ?_, fun h1 => absurd (nI_le (by omega) (by omega)) h1⟩
        (repeat ((conv => whnf); (first | refine zo0 ?_ | refine zo1 ?_ | refine br_z ?_ | refine br_o ?_ | refine br_zn ?_ | refine br_on ?_ | refine nz2 ?_ | refine nz6 ?_ | refine nz32 ?_ | refine And.intro (by assumption) ?_))); (conv => whnf)
        rw [nI_1]
        rw [show k = P 0 0 - (a + 1) by omega] at hc
        exact hout D' _ hf hp h7 hw' hc
      | succ m ih =>
        intro k D' hk hf hp h7 hw' hc
        obtain ⟨b, hb0⟩ : ∃ b, a + 1 + k = b := ⟨_, rfl⟩
        have eca : (nI a).toNatClampNeg = a := nI_clamp (by omega)
        have ecb : (nI b).toNatClampNeg = b := nI_clamp (by omega)
        have ina : vp_in (nI a) 24 := vp_in_nI (by omega) (by decide)
        have inb : vp_in (nI b) 24 := vp_in_nI (by omega) (by decide)
        have d17 : D' 17 = D 17 := hf 17 (by omega)
        have ra : D 17 a = nI (P 3 a) := hpx.2.2.2.2.2 a (by omega)
        have rb : D 17 b = nI (P 3 b) := hpx.2.2.2.2.2 b (by omega)
        have hS := pS_ok hP ha (show b < P 0 0 by omega)
        have hbk := mswI_ok (pr := allp) (a := a) hP hE ho k (by omega)
        have hbn : bok (mswI P (vev v) allp a o (k + 1)) := mswI_ok hP hE ho (k + 1) (by omega)
        rw [hb0]
        refine am_Wp_bl mfX_learnSwaps [42] 120 _ _ _ _ _ ?_
        (repeat ((conv => whnf); (first | refine zo0 ?_ | refine zo1 ?_ | refine br_z ?_ | refine br_o ?_ | refine br_zn ?_ | refine br_on ?_ | refine nz2 ?_ | refine nz6 ?_ | refine nz32 ?_ | refine And.intro (by assumption) ?_))); (conv => whnf)
        refine ⟨fun h1 => absurd h1 (nI_ge (by omega) (by omega)), fun h1 => ?_⟩
        (repeat ((conv => whnf); (first | refine zo0 ?_ | refine zo1 ?_ | refine br_z ?_ | refine br_o ?_ | refine br_zn ?_ | refine br_on ?_ | refine nz2 ?_ | refine nz6 ?_ | refine nz32 ?_ | refine And.intro (by assumption) ?_))); (conv => whnf)
        rw [eca, ecb, show am_up D' 21 a (D' 17 b) 17 = D' 17 from am_up_ne (by decide), d17, rb, ra]
        obtain ⟨D1, hD1⟩ : ∃ D1, am_up (am_up D' 21 a (nI (P 3 b))) 21 b (nI (P 3 a)) = D1 := ⟨_, rfl⟩
        rw [hD1]
        have z1 : ∀ q, q ≠ 21 → D1 q = D' q := fun q hq => by rw [← hD1, am_up_ne hq, am_up_ne hq]
        have z2 : ∀ i, D1 21 i = if i = b then nI (P 3 a) else if i = a then nI (P 3 b) else D' 21 i := fun i => by
          rw [← hD1, am_up_eq, am_up_eq]; rfl
        have p1 : px D1 18 (pS P a b) := by
          obtain ⟨x1, x2, x3, x4, x5, x6⟩ := hp
          refine ⟨?_, ?_, ?_, ?_, fun d hd => ?_, fun i hi' => ?_⟩
          · rw [z1 18 (by decide)]; exact x1
          · rw [z1 18 (by decide)]; exact x2
          · rw [z1 18 (by decide)]; exact x3
          · rw [z1 18 (by decide)]; exact x4
          · rw [z1 19 (by decide), z1 20 (by decide)]; exact x5 d hd
          · rw [z2 i]
            unfold pS up2
            simp only [if_true]
            by_cases y1 : i = b
            · simp [y1]
            · by_cases y2 : i = a
              · have : ¬ a = b := by omega
                simp [y2, this]
              · simp [y1, y2]
                exact x6 i hi'
        refine ⟨pS P a b, vev v, allp, Or.inr rfl, hS, hE, p1, ex_fr hex ((z1 _ (by decide)).trans (hf _ (by omega))) ((z1 _ (by decide)).trans (hf _ (by omega))) ((z1 _ (by decide)).trans (hf _ (by omega))) ((z1 _ (by decide)).trans (hf _ (by omega))), by rw [z1 18 (by decide), h7]; exact prx_0, iw_fr hw' (fun k _ _ => z1 k (by omega)), fun D2 g f2 w2 t2 => ?_⟩
        have px2 : px D2 18 (pS P a b) := px_fr4 p1 f2 (by decide)
        (repeat ((conv => whnf); (first | refine zo0 ?_ | refine zo1 ?_ | refine br_z ?_ | refine br_o ?_ | refine br_zn ?_ | refine br_on ?_ | refine nz2 ?_ | refine nz6 ?_ | refine nz32 ?_ | refine And.intro (by assumption) ?_))); (conv => whnf)
        refine ⟨pS P a b, _, g, 48, Or.inr rfl, hS, mw_run_ok hS hE 48, px2, w2, ?_⟩
        have e34 : D2 34 = D' 34 := (f2 _ (by omega)).trans (z1 _ (by decide))
        have ew : D2 22 13 = nI (mW (pS P a b) (vev v) allp) := w2.2.2.2.2.2.2.2.2.2.1
        have en : mw_ns (pS P a b) (mw_run (pS P a b) (vev v) allp 48) 12 = mN (pS P a b) (vev v) allp := rfl
        rw [en]
        (repeat ((conv => whnf); (first | refine zo0 ?_ | refine zo1 ?_ | refine br_z ?_ | refine br_o ?_ | refine br_zn ?_ | refine br_on ?_ | refine nz2 ?_ | refine nz6 ?_ | refine nz32 ?_ | refine And.intro (by assumption) ?_))); (conv => whnf)
        rw [ew]
        refine ⟨mswI P (vev v) allp a o k, 32 * a + b, mN (pS P a b) (vev v) allp, mW (pS P a b) (vev v) allp, by simp, hbk, rfl, mN_le _ _ _, rfl, mW_le hS hE, by rw [e34, hc.1]; exact swI_none hbk, by rw [e34, ← swI_2]; exact hc.2.2.1, by rw [e34, ← swI_3]; exact hc.2.2.2.1, fun D3 f3' c3' => ?_⟩
        have f3 : ∀ q, q ≠ 34 → D3 q = D2 q := f3'
        have w17 : D3 17 = D 17 := (f3 17 (by decide)).trans ((f2 17 (by omega)).trans ((z1 17 (by decide)).trans d17))
        have w21 : D3 21 = D1 21 := (f3 21 (by decide)).trans (f2 21 (by omega))
        (repeat ((conv => whnf); (first | refine zo0 ?_ | refine zo1 ?_ | refine br_z ?_ | refine br_o ?_ | refine br_zn ?_ | refine br_on ?_ | refine nz2 ?_ | refine nz6 ?_ | refine nz32 ?_ | refine And.intro (by assumption) ?_))); (conv => whnf)
        rw [eca, ecb, show am_up D3 21 a (D3 17 a) 17 = D3 17 from am_up_ne (by decide), w17, ra, rb, nI_1]
        rw [show b + 1 = a + 1 + (k + 1) by omega]
        refine ih (k + 1) _ (by omega) (fun q hq => ?_) ?_ ?_ ?_ ?_
        · rw [am_up_ne (by omega), am_up_ne (by omega), f3 q (by omega), f2 q (by omega), z1 q (by omega)]; exact hf q hq
        · have v18 : ∀ q, q ≠ 21 → q ≠ 34 → ¬ (22 ≤ q ∧ q ≤ 26) → am_up (am_up D3 21 a (nI (P 3 a))) 21 b (nI (P 3 b)) q = D' q := fun q h1 h2 h3 => by
            rw [am_up_ne h1, am_up_ne h1, f3 q h2, f2 q (by omega), z1 q h1]
          obtain ⟨x1, x2, x3, x4, x5, x6⟩ := hp
          refine ⟨?_, ?_, ?_, ?_, fun d hd => ?_, fun i hi' => ?_⟩
          · rw [v18 18 (by decide) (by decide) (by omega)]; exact x1
          · rw [v18 18 (by decide) (by decide) (by omega)]; exact x2
          · rw [v18 18 (by decide) (by decide) (by omega)]; exact x3
          · rw [v18 18 (by decide) (by decide) (by omega)]; exact x4
          · rw [v18 19 (by decide) (by decide) (by omega), v18 20 (by decide) (by decide) (by omega)]; exact x5 d hd
          · rw [ap, if_pos rfl, ap, if_pos rfl, w21, z2 i]
            by_cases y1 : i = b
            · rw [if_pos y1, y1]
            · rw [if_neg y1]
              by_cases y2 : i = a
              · rw [if_pos y2, y2]
              · rw [if_neg y2, if_neg y1, if_neg y2]; exact x6 i hi'
        · rw [am_up_ne (by decide), am_up_ne (by decide), f3 18 (by decide), f2 18 (by omega), z1 18 (by decide)]; exact h7
        · exact ⟨_, g, wx_fr w2 ((am_up_ne (by decide)).trans ((am_up_ne (by decide)).trans (f3 _ (by decide)))) ((am_up_ne (by decide)).trans ((am_up_ne (by decide)).trans (f3 _ (by decide)))) ((am_up_ne (by decide)).trans ((am_up_ne (by decide)).trans (f3 _ (by decide)))) ((am_up_ne (by decide)).trans ((am_up_ne (by decide)).trans (f3 _ (by decide))))⟩
        · have en2 : mswI P (vev v) allp a o (k + 1) = mpick (mswI P (vev v) allp a o k) (32 * a + b) (mN (pS P a b) (vev v) allp) (mW (pS P a b) (vev v) allp) := by
            rw [← hb0]; rfl
          rw [en2]
          unfold ocs
          rw [am_up_ne (by decide), am_up_ne (by decide)]
          rcases c3' with ⟨e1, e2, e3, e4, e5, e6⟩ | ⟨e1, e2⟩
          · rw [e1]
            refine ⟨?_, ?_, e4, e5, by rw [e6, e34]; exact hc.2.2.2.2⟩
            · rw [e2]
              show nI a = nI ((32 * a + b) / 32)
              rw [show (32 * a + b) / 32 = a by omega]
            · rw [e3]
              show nI b = nI ((32 * a + b) % 32)
              rw [show (32 * a + b) % 32 = b by omega]
          · rw [e1, e2, e34]
            exact hc
    have outer : ∀ (m a : Nat) (D' : am_D) (k3 : Option Value), a + m = P 0 0 → (∀ k, k < 18 ∨ (26 < k ∧ k ≠ 34) → D' k = D k) → px D' 18 P → D' 18 7 = 0 → iw D' → ocs D' (msw P (vev v) allp (P 0 0) a) → am_Wp false 0 cdX_learnSwaps fnX_learnSwaps K 33 [some (.ref 0), some (.int (nI (P 0 0))), some (.int (nI a)), k3] [] D' L := by
      intro m
      induction m with
      | zero =>
        intro a D' k3 ha hf hp h7 hw' hc
        refine am_Wp_bl mfX_learnSwaps [33] 40 _ _ _ _ _ ?_
        (repeat ((conv => whnf); (first | refine zo0 ?_ | refine zo1 ?_ | refine br_z ?_ | refine br_o ?_ | refine br_zn ?_ | refine br_on ?_ | refine nz2 ?_ | refine nz6 ?_ | refine nz32 ?_ | refine And.intro (by assumption) ?_))); (conv => whnf)
        refine ⟨fun h1 => ?_, fun h1 => absurd (nI_le (by omega) (by omega)) h1⟩
        (repeat ((conv => whnf); (first | refine zo0 ?_ | refine zo1 ?_ | refine br_z ?_ | refine br_o ?_ | refine br_zn ?_ | refine br_on ?_ | refine nz2 ?_ | refine nz6 ?_ | refine nz32 ?_ | refine And.intro (by assumption) ?_))); (conv => whnf)
        rw [show a = P 0 0 by omega] at hc
        exact hK' D' hf hw' hc
      | succ m ih =>
        intro a D' k3 ha hf hp h7 hw' hc
        refine am_Wp_bl mfX_learnSwaps [33, 42] 40 _ _ _ _ _ ?_
        (repeat ((conv => whnf); (first | refine zo0 ?_ | refine zo1 ?_ | refine br_z ?_ | refine br_o ?_ | refine br_zn ?_ | refine br_on ?_ | refine nz2 ?_ | refine nz6 ?_ | refine nz32 ?_ | refine And.intro (by assumption) ?_))); (conv => whnf)
        refine ⟨fun h1 => absurd h1 (nI_ge (by omega) (by omega)), fun h1 => ?_⟩
        (repeat ((conv => whnf); (first | refine zo0 ?_ | refine zo1 ?_ | refine br_z ?_ | refine br_o ?_ | refine br_zn ?_ | refine br_on ?_ | refine nz2 ?_ | refine nz6 ?_ | refine nz32 ?_ | refine And.intro (by assumption) ?_))); (conv => whnf)
        rw [nI_1]
        exact inner a (msw P (vev v) allp (P 0 0) a) (by omega) (msw_ok hP hE a (by omega)) (fun D2 k4 a1 a2 a3 a4 a5 => ih (a + 1) D2 k4 (by omega) a1 a2 a3 a4 a5) (P 0 0 - (a + 1)) 0 D' (by omega) hf hp h7 hw' hc
    refine ⟨rfl, am_Wp_bl mfX_learnSwaps [33] 80 _ _ _ _ _ ?_⟩
    (repeat ((conv => whnf); (first | refine zo0 ?_ | refine zo1 ?_ | refine br_z ?_ | refine br_o ?_ | refine br_zn ?_ | refine br_on ?_ | refine nz2 ?_ | refine nz6 ?_ | refine nz32 ?_ | refine And.intro (by assumption) ?_))); (conv => whnf)
    obtain ⟨D1, hD1⟩ : ∃ D1, am_up (am_up (am_up (am_up (am_up D 34 0 (-1)) 34 1 (-1)) 34 2 (-1)) 34 3 (-1)) 34 4 1 = D1 := ⟨_, rfl⟩
    rw [hD1]
    have f1 : ∀ k, k ≠ 34 → D1 k = D k := fun k hk => by rw [← hD1, am_up_ne hk, am_up_ne hk, am_up_ne hk, am_up_ne hk, am_up_ne hk]
    have o1 : ocs D1 none := by
      rw [← hD1]
      refine ⟨?_, ?_, ?_, ?_, ?_⟩ <;> simp [ap, swI]
    refine ⟨P, px_fr hpx (f1 _ (by decide)) (f1 _ (by decide)) (f1 _ (by decide)) (f1 _ (by decide)), fun D2 f2 p2 a2 => ?_⟩
    have d14 : D2 14 = D 14 := (f2 14 (by omega)).trans (f1 14 (by decide))
    (repeat ((conv => whnf); (first | refine zo0 ?_ | refine zo1 ?_ | refine br_z ?_ | refine br_o ?_ | refine br_zn ?_ | refine br_on ?_ | refine nz2 ?_ | refine nz6 ?_ | refine nz32 ?_ | refine And.intro (by assumption) ?_))); (conv => whnf)
    rw [d14, hpx.1, if_neg (show ¬ (24 : Int32) < nI (P 0 0) from nI_nlt (a := 24) (by omega) (by omega))]
    (repeat ((conv => whnf); (first | refine zo0 ?_ | refine zo1 ?_ | refine br_z ?_ | refine br_o ?_ | refine br_zn ?_ | refine br_on ?_ | refine nz2 ?_ | refine nz6 ?_ | refine nz32 ?_ | refine And.intro (by assumption) ?_))); (conv => whnf)
    refine outer (P 0 0) 0 D2 none (by omega) (fun k hk => (f2 k (by omega)).trans (f1 k (by omega))) p2 ?_ (iw_fr hw (fun k _ _ => (f2 k (by omega)).trans (f1 k (by omega)))) ?_
    · rw [a2, f1 14 (by decide)]; exact hib.2.1.2
    · unfold ocs
      rw [f2 34 (by omega)]
      exact o1
  · exact absurd h id
theorem clX_learnSwaps (l : Launch) : ∀ (a : Nat) (ins : Instr) (b dd : Nat), csX_learnSwaps[a]? = some (ins, b, dd) → am_Call l yX_learnSwaps.cls 4 ins b dd (fnX_learnSwaps a) := by
  intro a ins b dd h
  match a, h with
  | 0, h => cases h; exact am_callV (T := F_1) (N := 5) (okO_clear l) wcO_clear (am_m3 (i := 118) rfl rfl) wiO_clear wsO_clear inO rfl (by decide) (by decide +kernel) (by decide) (by decide)
  | 1, h => cases h; exact am_callV (T := F_4) (N := 8) (okP_take l) wcP_take (am_m3 (i := 122) rfl rfl) wiP_take wsP_take inP rfl (by decide) (by decide +kernel) (by decide) (by decide)
  | 2, h => cases h; exact am_callMin (am_m3 (i := 158) rfl rfl) (wcJ_min) (wtJ_min) inJM (by decide)
  | 3, h => cases h; exact am_callV (T := F_9) (N := 17) (okW_run l) wcW_run (am_m3 (i := 22) rfl rfl) wiW_run wsW_run inW rfl (by decide) (by decide +kernel) (by decide) (by decide)
  | 4, h => cases h; exact am_callV (T := F_9) (N := 17) (okW_howManyLack l) wcW_howManyLack (am_m3 (i := 127) rfl rfl) wiW_howManyLack wsW_howManyLack inW rfl (by decide) (by decide +kernel) (by decide) (by decide)
  | 5, h => cases h; exact am_callV (T := F_1) (N := 5) (okO_offer l) wcO_offer (am_m3 (i := 138) rfl rfl) wiO_offer wsO_offer inO rfl (by decide) (by decide +kernel) (by decide) (by decide)
  | k + 6, h => simp [csX_learnSwaps] at h
theorem okX_learnSwaps (l : Launch) : am_Ok l yX_learnSwaps prog_1_method_50_code 4 none 4 spX_learnSwaps := am_ok_of (by decide +kernel) flX_ok kiX_ok klX_ok ckX_learnSwaps (clX_learnSwaps l) wpX_learnSwaps
def fnX_swap : Nat → am_Sp := fun a => match a with
  | 0 => spX_learnSwaps
  | 1 => spO_ofOne
  | _ => am_no
theorem mfX_swap : ∀ a, am_mono (fnX_swap a) := fun a => match a with
  | 0 => moX_learnSwaps
  | 1 => moO_ofOne
  | _ + 2 => am_no_mono
def spX_swap : am_Sp := fun as D L K => match as with
  | [.ref 0, .int x] => ∃ v : vs_T, vok v ∧ ix D v ∧ ∀ (D' : am_D) (L' : am_L), fc D D' → ix D' v → K (some (.int (qSwap v x))) D' L'
  | _ => False
theorem moX_swap : am_mono spX_swap := by
  intro as D L K K' hK h
  unfold spX_swap at h ⊢
  split at h
  · obtain ⟨z0, z1, z2, hz⟩ := h
    exact ⟨z0, z1, z2, fun D' L' q1 q2 => hK _ _ _ (hz D' L' q1 q2)⟩
  · exact h
theorem wpX_swap : ∀ (as : List Value) (D : am_D) (L : am_L) (K : am_K), spX_swap as D L K → am_fit 2 as = true ∧ am_Wp false 0 cdX_swap fnX_swap K 0 (am_lo 2 as) [] D L := by
  intro as D L K h
  unfold spX_swap at h
  split at h
  · rename_i x
    obtain ⟨v, hv, hi, hK⟩ := h
    have kb : ¬ ((0 ≤ x ∧ x ≤ 3)) → K (some (.int (-2))) D L := fun q => by
      have k := hK D L fc_rf
      unfold qSwap at k
      by_cases c0 : (0 ≤ x ∧ x ≤ 3)
      · exact absurd c0 q
      · rw [if_neg c0] at k
        exact k hi
    have fin : (0 ≤ x ∧ x ≤ 3) → ∀ (D' : am_D), fc D D' → ix D' v → ocs D' (aSwap v) → am_Wp false 0 cdX_swap fnX_swap K 26 [some (.ref 0), some (.int x)] [] D' L := by
      intro hx D' f1 i1 o1
      have k := hK D' L f1 i1
      obtain ⟨c, hc, ec⟩ := rg_nI (n := 3) (by decide) hx
      unfold qSwap at k
      rw [if_pos hx, ec, cN_nI (by omega)] at k
      refine am_Wp_bl mfX_swap [] 40 _ _ _ _ _ ?_
      rcases (show c = 0 ∨ c = 1 ∨ c = 2 ∨ c = 3 by omega) with rfl | rfl | rfl | rfl
      · have ex : x = 0 := ec.trans nI_0
        subst ex
        (repeat ((conv => whnf); (first | refine zo0 ?_ | refine zo1 ?_ | refine br_z ?_ | refine br_o ?_ | refine br_zn ?_ | refine br_on ?_ | refine nz2 ?_ | refine nz6 ?_ | refine nz32 ?_ | refine And.intro (by assumption) ?_))); (conv => whnf)
        refine ⟨fun _ => ?_, fun q => absurd q (by decide)⟩
        (repeat ((conv => whnf); (first | refine zo0 ?_ | refine zo1 ?_ | refine br_z ?_ | refine br_o ?_ | refine br_zn ?_ | refine br_on ?_ | refine nz2 ?_ | refine nz6 ?_ | refine nz32 ?_ | refine And.intro (by assumption) ?_))); (conv => whnf)
        rw [o1.1]
        exact k
      · have ex : x = 1 := ec.trans nc1
        subst ex
        (repeat ((conv => whnf); (first | refine zo0 ?_ | refine zo1 ?_ | refine br_z ?_ | refine br_o ?_ | refine br_zn ?_ | refine br_on ?_ | refine nz2 ?_ | refine nz6 ?_ | refine nz32 ?_ | refine And.intro (by assumption) ?_))); (conv => whnf)
        refine ⟨fun q => absurd rfl q, fun _ => ?_⟩
        (repeat ((conv => whnf); (first | refine zo0 ?_ | refine zo1 ?_ | refine br_z ?_ | refine br_o ?_ | refine br_zn ?_ | refine br_on ?_ | refine nz2 ?_ | refine nz6 ?_ | refine nz32 ?_ | refine And.intro (by assumption) ?_))); (conv => whnf)
        rw [o1.2.1]
        exact k
      · have ex : x = 2 := ec.trans nc2
        subst ex
        (repeat ((conv => whnf); (first | refine zo0 ?_ | refine zo1 ?_ | refine br_z ?_ | refine br_o ?_ | refine br_zn ?_ | refine br_on ?_ | refine nz2 ?_ | refine nz6 ?_ | refine nz32 ?_ | refine And.intro (by assumption) ?_))); (conv => whnf)
        refine ⟨fun _ => ?_, fun q => absurd q (by decide)⟩
        (repeat ((conv => whnf); (first | refine zo0 ?_ | refine zo1 ?_ | refine br_z ?_ | refine br_o ?_ | refine br_zn ?_ | refine br_on ?_ | refine nz2 ?_ | refine nz6 ?_ | refine nz32 ?_ | refine And.intro (by assumption) ?_))); (conv => whnf)
        refine ⟨fun _ => ?_, fun q => absurd q (by decide)⟩
        (repeat ((conv => whnf); (first | refine zo0 ?_ | refine zo1 ?_ | refine br_z ?_ | refine br_o ?_ | refine br_zn ?_ | refine br_on ?_ | refine nz2 ?_ | refine nz6 ?_ | refine nz32 ?_ | refine And.intro (by assumption) ?_))); (conv => whnf)
        refine ⟨fun q => absurd (show (2 : Int32) - 1 = 1 by decide) q, fun _ => ?_⟩
        (repeat ((conv => whnf); (first | refine zo0 ?_ | refine zo1 ?_ | refine br_z ?_ | refine br_o ?_ | refine br_zn ?_ | refine br_on ?_ | refine nz2 ?_ | refine nz6 ?_ | refine nz32 ?_ | refine And.intro (by assumption) ?_))); (conv => whnf)
        rw [o1.2.2.1]
        exact k
      · have ex : x = 3 := ec.trans (by decide +kernel)
        subst ex
        (repeat ((conv => whnf); (first | refine zo0 ?_ | refine zo1 ?_ | refine br_z ?_ | refine br_o ?_ | refine br_zn ?_ | refine br_on ?_ | refine nz2 ?_ | refine nz6 ?_ | refine nz32 ?_ | refine And.intro (by assumption) ?_))); (conv => whnf)
        refine ⟨fun _ => ?_, fun q => absurd q (by decide)⟩
        (repeat ((conv => whnf); (first | refine zo0 ?_ | refine zo1 ?_ | refine br_z ?_ | refine br_o ?_ | refine br_zn ?_ | refine br_on ?_ | refine nz2 ?_ | refine nz6 ?_ | refine nz32 ?_ | refine And.intro (by assumption) ?_))); (conv => whnf)
        refine ⟨fun _ => ?_, fun q => absurd q (by decide)⟩
        (repeat ((conv => whnf); (first | refine zo0 ?_ | refine zo1 ?_ | refine br_z ?_ | refine br_o ?_ | refine br_zn ?_ | refine br_on ?_ | refine nz2 ?_ | refine nz6 ?_ | refine nz32 ?_ | refine And.intro (by assumption) ?_))); (conv => whnf)
        refine ⟨fun _ => ?_, fun q => absurd q (by decide)⟩
        (repeat ((conv => whnf); (first | refine zo0 ?_ | refine zo1 ?_ | refine br_z ?_ | refine br_o ?_ | refine br_zn ?_ | refine br_on ?_ | refine nz2 ?_ | refine nz6 ?_ | refine nz32 ?_ | refine And.intro (by assumption) ?_))); (conv => whnf)
        refine ⟨fun _ => ?_, fun q => absurd q (by decide)⟩
        (repeat ((conv => whnf); (first | refine zo0 ?_ | refine zo1 ?_ | refine br_z ?_ | refine br_o ?_ | refine br_zn ?_ | refine br_on ?_ | refine nz2 ?_ | refine nz6 ?_ | refine nz32 ?_ | refine And.intro (by assumption) ?_))); (conv => whnf)
        rw [o1.2.2.2.1]
        exact k
    refine ⟨rfl, am_Wp_bl mfX_swap [26] 80 _ _ _ _ _ ?_⟩
    (repeat ((conv => whnf); (first | refine zo0 ?_ | refine zo1 ?_ | refine br_z ?_ | refine br_o ?_ | refine br_zn ?_ | refine br_on ?_ | refine nz2 ?_ | refine nz6 ?_ | refine nz32 ?_ | refine And.intro (by assumption) ?_))); (conv => whnf)
    refine ⟨fun h1 => ?_, fun h1 => ?_⟩
    · (repeat ((conv => whnf); (first | refine zo0 ?_ | refine zo1 ?_ | refine br_z ?_ | refine br_o ?_ | refine br_zn ?_ | refine br_on ?_ | refine nz2 ?_ | refine nz6 ?_ | refine nz32 ?_ | refine And.intro (by assumption) ?_))); (conv => whnf)
      exact kb (rn0 h1)
    (repeat ((conv => whnf); (first | refine zo0 ?_ | refine zo1 ?_ | refine br_z ?_ | refine br_o ?_ | refine br_zn ?_ | refine br_on ?_ | refine nz2 ?_ | refine nz6 ?_ | refine nz32 ?_ | refine And.intro (by assumption) ?_))); (conv => whnf)
    refine ⟨fun h2 => ?_, fun h2 => ?_⟩
    rotate_left
    · (repeat ((conv => whnf); (first | refine zo0 ?_ | refine zo1 ?_ | refine br_z ?_ | refine br_o ?_ | refine br_zn ?_ | refine br_on ?_ | refine nz2 ?_ | refine nz6 ?_ | refine nz32 ?_ | refine And.intro (by assumption) ?_))); (conv => whnf)
      exact kb (rn2 h2)
    have hx : 0 ≤ x ∧ x ≤ 3 := ⟨Int32.not_lt.mp h1, h2⟩
    (repeat ((conv => whnf); (first | refine zo0 ?_ | refine zo1 ?_ | refine br_z ?_ | refine br_o ?_ | refine br_zn ?_ | refine br_on ?_ | refine nz2 ?_ | refine nz6 ?_ | refine nz32 ?_ | refine And.intro (by assumption) ?_))); (conv => whnf)
    refine ⟨fun h3 => ?_, fun h3 => ?_⟩
    · rcases hi.2.1.2.2.2.1 with q | q
      · exact absurd q h3
      · (repeat ((conv => whnf); (first | refine zo0 ?_ | refine zo1 ?_ | refine br_z ?_ | refine br_o ?_ | refine br_zn ?_ | refine br_on ?_ | refine nz2 ?_ | refine nz6 ?_ | refine nz32 ?_ | refine And.intro (by assumption) ?_))); (conv => whnf)
        exact fin hx D fc_rf hi ⟨q.2.1, q.2.2.1, q.2.2.2.1, q.2.2.2.2, q.1⟩
    (repeat ((conv => whnf); (first | refine zo0 ?_ | refine zo1 ?_ | refine br_z ?_ | refine br_o ?_ | refine br_zn ?_ | refine br_on ?_ | refine nz2 ?_ | refine nz6 ?_ | refine nz32 ?_ | refine And.intro (by assumption) ?_))); (conv => whnf)
    refine ⟨v, hv, hi, fun D1 f1 i1 o1 => ?_⟩
    (repeat ((conv => whnf); (first | refine zo0 ?_ | refine zo1 ?_ | refine br_z ?_ | refine br_o ?_ | refine br_zn ?_ | refine br_on ?_ | refine nz2 ?_ | refine nz6 ?_ | refine nz32 ?_ | refine And.intro (by assumption) ?_))); (conv => whnf)
    exact fin hx D1 f1 i1 o1
  · exact absurd h id
theorem clX_swap (l : Launch) : ∀ (a : Nat) (ins : Instr) (b dd : Nat), csX_swap[a]? = some (ins, b, dd) → am_Call l yX_swap.cls 5 ins b dd (fnX_swap a) := by
  intro a ins b dd h
  match a, h with
  | 0, h => cases h; exact am_callV (T := F_10) (N := 17) (okX_learnSwaps l) wcX_learnSwaps (am_m3 (i := 154) rfl rfl) wiX_learnSwaps wsX_learnSwaps inX rfl (by decide) (by decide +kernel) (by decide) (by decide)
  | 1, h => cases h; exact am_callV (T := F_1) (N := 5) (okO_ofOne l) wcO_ofOne (am_m3 (i := 142) rfl rfl) wiO_ofOne wsO_ofOne inO rfl (by decide) (by decide +kernel) (by decide) (by decide)
  | k + 2, h => simp [csX_swap] at h
theorem okX_swap (l : Launch) : am_Ok l yX_swap prog_1_method_20_code 2 (some .int) 5 spX_swap := am_ok_of (by decide +kernel) flX_ok kiX_ok klX_ok ckX_swap (clX_swap l) wpX_swap
